theorem dX7_init_0 : decode cX7_init 0 = .ok (.aload_n 0, 1) := by decide +kernel
theorem dX7_init_1 : decode cX7_init 1 = .ok (.invokespecial 1, 3) := by decide +kernel
theorem dX7_init_4 : decode cX7_init 4 = .ok (.aload_n 0, 1) := by decide +kernel
theorem dX7_init_5 : decode cX7_init 5 = .ok (.sipush 3070, 3) := by decide +kernel
theorem dX7_init_8 : decode cX7_init 8 = .ok (.newarray .int, 2) := by decide +kernel
theorem dX7_init_10 : decode cX7_init 10 = .ok (.putfield 7, 3) := by decide +kernel
theorem dX7_init_13 : decode cX7_init 13 = .ok (.aload_n 0, 1) := by decide +kernel
theorem dX7_init_14 : decode cX7_init 14 = .ok (.sipush 3070, 3) := by decide +kernel
theorem dX7_init_17 : decode cX7_init 17 = .ok (.newarray .int, 2) := by decide +kernel
theorem dX7_init_19 : decode cX7_init 19 = .ok (.putfield 13, 3) := by decide +kernel
theorem dX7_init_22 : decode cX7_init 22 = .ok (.aload_n 0, 1) := by decide +kernel
theorem dX7_init_23 : decode cX7_init 23 = .ok (.sipush 3070, 3) := by decide +kernel
theorem dX7_init_26 : decode cX7_init 26 = .ok (.newarray .int, 2) := by decide +kernel
theorem dX7_init_28 : decode cX7_init 28 = .ok (.putfield 16, 3) := by decide +kernel
theorem dX7_init_31 : decode cX7_init 31 = .ok (.aload_n 0, 1) := by decide +kernel
theorem dX7_init_32 : decode cX7_init 32 = .ok (.iconst 4, 1) := by decide +kernel
theorem dX7_init_33 : decode cX7_init 33 = .ok (.newarray .int, 2) := by decide +kernel
theorem dX7_init_35 : decode cX7_init 35 = .ok (.putfield 19, 3) := by decide +kernel
theorem dX7_init_38 : decode cX7_init 38 = .ok (.aload_n 0, 1) := by decide +kernel
theorem dX7_init_39 : decode cX7_init 39 = .ok (.iconst 4, 1) := by decide +kernel
theorem dX7_init_40 : decode cX7_init 40 = .ok (.newarray .int, 2) := by decide +kernel
theorem dX7_init_42 : decode cX7_init 42 = .ok (.putfield 22, 3) := by decide +kernel
theorem dX7_init_45 : decode cX7_init 45 = .ok (.aload_n 0, 1) := by decide +kernel
theorem dX7_init_46 : decode cX7_init 46 = .ok (.bipush 96, 2) := by decide +kernel
theorem dX7_init_48 : decode cX7_init 48 = .ok (.newarray .int, 2) := by decide +kernel
theorem dX7_init_50 : decode cX7_init 50 = .ok (.putfield 25, 3) := by decide +kernel
theorem dX7_init_53 : decode cX7_init 53 = .ok (.aload_n 0, 1) := by decide +kernel
theorem dX7_init_54 : decode cX7_init 54 = .ok (.iconst 5, 1) := by decide +kernel
theorem dX7_init_55 : decode cX7_init 55 = .ok (.newarray .int, 2) := by decide +kernel
theorem dX7_init_57 : decode cX7_init 57 = .ok (.putfield 28, 3) := by decide +kernel
theorem dX7_init_60 : decode cX7_init 60 = .ok (.aload_n 0, 1) := by decide +kernel
theorem dX7_init_61 : decode cX7_init 61 = .ok (.iconst 5, 1) := by decide +kernel
theorem dX7_init_62 : decode cX7_init 62 = .ok (.newarray .int, 2) := by decide +kernel
theorem dX7_init_64 : decode cX7_init 64 = .ok (.putfield 31, 3) := by decide +kernel
theorem dX7_init_67 : decode cX7_init 67 = .ok (.aload_n 0, 1) := by decide +kernel
theorem dX7_init_68 : decode cX7_init 68 = .ok (.iconst 5, 1) := by decide +kernel
theorem dX7_init_69 : decode cX7_init 69 = .ok (.newarray .int, 2) := by decide +kernel
theorem dX7_init_71 : decode cX7_init 71 = .ok (.putfield 34, 3) := by decide +kernel
theorem dX7_init_74 : decode cX7_init 74 = .ok (.aload_n 0, 1) := by decide +kernel
theorem dX7_init_75 : decode cX7_init 75 = .ok (.iconst 5, 1) := by decide +kernel
theorem dX7_init_76 : decode cX7_init 76 = .ok (.newarray .int, 2) := by decide +kernel
theorem dX7_init_78 : decode cX7_init 78 = .ok (.putfield 37, 3) := by decide +kernel
theorem dX7_init_81 : decode cX7_init 81 = .ok (.aload_n 0, 1) := by decide +kernel
theorem dX7_init_82 : decode cX7_init 82 = .ok (.bipush 120, 2) := by decide +kernel
theorem dX7_init_84 : decode cX7_init 84 = .ok (.newarray .int, 2) := by decide +kernel
theorem dX7_init_86 : decode cX7_init 86 = .ok (.putfield 40, 3) := by decide +kernel
theorem dX7_init_89 : decode cX7_init 89 = .ok (.aload_n 0, 1) := by decide +kernel
theorem dX7_init_90 : decode cX7_init 90 = .ok (.bipush 8, 2) := by decide +kernel
theorem dX7_init_92 : decode cX7_init 92 = .ok (.newarray .int, 2) := by decide +kernel
theorem dX7_init_94 : decode cX7_init 94 = .ok (.putfield 43, 3) := by decide +kernel
theorem dX7_init_97 : decode cX7_init 97 = .ok (.aload_n 0, 1) := by decide +kernel
theorem dX7_init_98 : decode cX7_init 98 = .ok (.bipush 120, 2) := by decide +kernel
theorem dX7_init_100 : decode cX7_init 100 = .ok (.newarray .boolean, 2) := by decide +kernel
theorem dX7_init_102 : decode cX7_init 102 = .ok (.putfield 46, 3) := by decide +kernel
theorem dX7_init_105 : decode cX7_init 105 = .ok (.aload_n 0, 1) := by decide +kernel
theorem dX7_init_106 : decode cX7_init 106 = .ok (.bipush 70, 2) := by decide +kernel
theorem dX7_init_108 : decode cX7_init 108 = .ok (.newarray .int, 2) := by decide +kernel
theorem dX7_init_110 : decode cX7_init 110 = .ok (.putfield 50, 3) := by decide +kernel
theorem dX7_init_113 : decode cX7_init 113 = .ok (.aload_n 0, 1) := by decide +kernel
theorem dX7_init_114 : decode cX7_init 114 = .ok (.bipush 96, 2) := by decide +kernel
theorem dX7_init_116 : decode cX7_init 116 = .ok (.newarray .int, 2) := by decide +kernel
theorem dX7_init_118 : decode cX7_init 118 = .ok (.putfield 53, 3) := by decide +kernel
theorem dX7_init_121 : decode cX7_init 121 = .ok (.aload_n 0, 1) := by decide +kernel
theorem dX7_init_122 : decode cX7_init 122 = .ok (.sipush 128, 3) := by decide +kernel
theorem dX7_init_125 : decode cX7_init 125 = .ok (.newarray .int, 2) := by decide +kernel
theorem dX7_init_127 : decode cX7_init 127 = .ok (.putfield 56, 3) := by decide +kernel
theorem dX7_init_130 : decode cX7_init 130 = .ok (.aload_n 0, 1) := by decide +kernel
theorem dX7_init_131 : decode cX7_init 131 = .ok (.bipush 100, 2) := by decide +kernel
theorem dX7_init_133 : decode cX7_init 133 = .ok (.newarray .int, 2) := by decide +kernel
theorem dX7_init_135 : decode cX7_init 135 = .ok (.putfield 59, 3) := by decide +kernel
theorem dX7_init_138 : decode cX7_init 138 = .ok (.aload_n 0, 1) := by decide +kernel
theorem dX7_init_139 : decode cX7_init 139 = .ok (.bipush 24, 2) := by decide +kernel
theorem dX7_init_141 : decode cX7_init 141 = .ok (.newarray .int, 2) := by decide +kernel
theorem dX7_init_143 : decode cX7_init 143 = .ok (.putfield 62, 3) := by decide +kernel
theorem dX7_init_146 : decode cX7_init 146 = .ok (.aload_n 0, 1) := by decide +kernel
theorem dX7_init_147 : decode cX7_init 147 = .ok (.bipush 60, 2) := by decide +kernel
theorem dX7_init_149 : decode cX7_init 149 = .ok (.newarray .int, 2) := by decide +kernel
theorem dX7_init_151 : decode cX7_init 151 = .ok (.putfield 65, 3) := by decide +kernel
theorem dX7_init_154 : decode cX7_init 154 = .ok (.aload_n 0, 1) := by decide +kernel
theorem dX7_init_155 : decode cX7_init 155 = .ok (.bipush 60, 2) := by decide +kernel
theorem dX7_init_157 : decode cX7_init 157 = .ok (.newarray .int, 2) := by decide +kernel
theorem dX7_init_159 : decode cX7_init 159 = .ok (.putfield 68, 3) := by decide +kernel
theorem dX7_init_162 : decode cX7_init 162 = .ok (.aload_n 0, 1) := by decide +kernel
theorem dX7_init_163 : decode cX7_init 163 = .ok (.getfield 7, 3) := by decide +kernel
theorem dX7_init_166 : decode cX7_init 166 = .ok (.iconst 3, 1) := by decide +kernel
theorem dX7_init_167 : decode cX7_init 167 = .ok (.iconst 4, 1) := by decide +kernel
theorem dX7_init_168 : decode cX7_init 168 = .ok (.iastore, 1) := by decide +kernel
theorem dX7_init_169 : decode cX7_init 169 = .ok (.aload_n 0, 1) := by decide +kernel
theorem dX7_init_170 : decode cX7_init 170 = .ok (.getfield 7, 3) := by decide +kernel
theorem dX7_init_173 : decode cX7_init 173 = .ok (.iconst 4, 1) := by decide +kernel
theorem dX7_init_174 : decode cX7_init 174 = .ok (.bipush 9, 2) := by decide +kernel
theorem dX7_init_176 : decode cX7_init 176 = .ok (.iastore, 1) := by decide +kernel
theorem dX7_init_177 : decode cX7_init 177 = .ok (.aload_n 0, 1) := by decide +kernel
theorem dX7_init_178 : decode cX7_init 178 = .ok (.getfield 7, 3) := by decide +kernel
theorem dX7_init_181 : decode cX7_init 181 = .ok (.iconst 5, 1) := by decide +kernel
theorem dX7_init_182 : decode cX7_init 182 = .ok (.iconst 1, 1) := by decide +kernel
theorem dX7_init_183 : decode cX7_init 183 = .ok (.iastore, 1) := by decide +kernel
theorem dX7_init_184 : decode cX7_init 184 = .ok (.iconst 0, 1) := by decide +kernel
theorem dX7_init_185 : decode cX7_init 185 = .ok (.istore_n 1, 1) := by decide +kernel
theorem dX7_init_186 : decode cX7_init 186 = .ok (.iload_n 1, 1) := by decide +kernel
theorem dX7_init_187 : decode cX7_init 187 = .ok (.iconst 4, 1) := by decide +kernel
theorem dX7_init_188 : decode cX7_init 188 = .ok (.if_icmp .ge 16, 3) := by decide +kernel
theorem dX7_init_191 : decode cX7_init 191 = .ok (.aload_n 0, 1) := by decide +kernel
theorem dX7_init_192 : decode cX7_init 192 = .ok (.getfield 19, 3) := by decide +kernel
theorem dX7_init_195 : decode cX7_init 195 = .ok (.iload_n 1, 1) := by decide +kernel
theorem dX7_init_196 : decode cX7_init 196 = .ok (.iconst (-1), 1) := by decide +kernel
theorem dX7_init_197 : decode cX7_init 197 = .ok (.iastore, 1) := by decide +kernel
theorem dX7_init_198 : decode cX7_init 198 = .ok (.iinc 1 1, 3) := by decide +kernel
theorem dX7_init_201 : decode cX7_init 201 = .ok (.goto (-15), 3) := by decide +kernel
theorem dX7_init_204 : decode cX7_init 204 = .ok (.return_, 1) := by decide +kernel
theorem dX7_isIn_0 : decode cX7_isIn 0 = .ok (.lload_n 0, 1) := by decide +kernel
theorem dX7_isIn_1 : decode cX7_isIn 1 = .ok (.lload_n 2, 1) := by decide +kernel
theorem dX7_isIn_2 : decode cX7_isIn 2 = .ok (.lcmp, 1) := by decide +kernel
theorem dX7_isIn_3 : decode cX7_isIn 3 = .ok (.ifCond .lt 14, 3) := by decide +kernel
theorem dX7_isIn_6 : decode cX7_isIn 6 = .ok (.lload_n 0, 1) := by decide +kernel
theorem dX7_isIn_7 : decode cX7_isIn 7 = .ok (.lload 4, 2) := by decide +kernel
theorem dX7_isIn_9 : decode cX7_isIn 9 = .ok (.lcmp, 1) := by decide +kernel
theorem dX7_isIn_10 : decode cX7_isIn 10 = .ok (.ifCond .gt 7, 3) := by decide +kernel
theorem dX7_isIn_13 : decode cX7_isIn 13 = .ok (.iconst 1, 1) := by decide +kernel
theorem dX7_isIn_14 : decode cX7_isIn 14 = .ok (.goto 4, 3) := by decide +kernel
theorem dX7_isIn_17 : decode cX7_isIn 17 = .ok (.iconst 0, 1) := by decide +kernel
theorem dX7_isIn_18 : decode cX7_isIn 18 = .ok (.ireturn, 1) := by decide +kernel
theorem dX7_orNone_0 : decode cX7_orNone 0 = .ok (.iload_n 0, 1) := by decide +kernel
theorem dX7_orNone_1 : decode cX7_orNone 1 = .ok (.ifCond .ge 8, 3) := by decide +kernel
theorem dX7_orNone_4 : decode cX7_orNone 4 = .ok (.ldc 71, 2) := by decide +kernel
theorem dX7_orNone_6 : decode cX7_orNone 6 = .ok (.goto 4, 3) := by decide +kernel
theorem dX7_orNone_9 : decode cX7_orNone 9 = .ok (.iload_n 0, 1) := by decide +kernel
theorem dX7_orNone_10 : decode cX7_orNone 10 = .ok (.ireturn, 1) := by decide +kernel
theorem dX7_within_0 : decode cX7_within 0 = .ok (.iload_n 0, 1) := by decide +kernel
theorem dX7_within_1 : decode cX7_within 1 = .ok (.iload_n 1, 1) := by decide +kernel
theorem dX7_within_2 : decode cX7_within 2 = .ok (.if_icmp .ge 7, 3) := by decide +kernel
theorem dX7_within_5 : decode cX7_within 5 = .ok (.iload_n 1, 1) := by decide +kernel
theorem dX7_within_6 : decode cX7_within 6 = .ok (.goto 13, 3) := by decide +kernel
theorem dX7_within_9 : decode cX7_within 9 = .ok (.iload_n 0, 1) := by decide +kernel
theorem dX7_within_10 : decode cX7_within 10 = .ok (.iload_n 2, 1) := by decide +kernel
theorem dX7_within_11 : decode cX7_within 11 = .ok (.if_icmp .le 7, 3) := by decide +kernel
theorem dX7_within_14 : decode cX7_within 14 = .ok (.iload_n 2, 1) := by decide +kernel
theorem dX7_within_15 : decode cX7_within 15 = .ok (.goto 4, 3) := by decide +kernel
theorem dX7_within_18 : decode cX7_within 18 = .ok (.iload_n 0, 1) := by decide +kernel
theorem dX7_within_19 : decode cX7_within 19 = .ok (.ireturn, 1) := by decide +kernel
theorem dX7_becomes_0 : decode cX7_becomes 0 = .ok (.aload_n 0, 1) := by decide +kernel
theorem dX7_becomes_1 : decode cX7_becomes 1 = .ok (.getfield 7, 3) := by decide +kernel
theorem dX7_becomes_4 : decode cX7_becomes 4 = .ok (.iload_n 1, 1) := by decide +kernel
theorem dX7_becomes_5 : decode cX7_becomes 5 = .ok (.iaload, 1) := by decide +kernel
theorem dX7_becomes_6 : decode cX7_becomes 6 = .ok (.istore_n 3, 1) := by decide +kernel
theorem dX7_becomes_7 : decode cX7_becomes 7 = .ok (.aload_n 0, 1) := by decide +kernel
theorem dX7_becomes_8 : decode cX7_becomes 8 = .ok (.getfield 7, 3) := by decide +kernel
theorem dX7_becomes_11 : decode cX7_becomes 11 = .ok (.iload_n 1, 1) := by decide +kernel
theorem dX7_becomes_12 : decode cX7_becomes 12 = .ok (.iload_n 2, 1) := by decide +kernel
theorem dX7_becomes_13 : decode cX7_becomes 13 = .ok (.iastore, 1) := by decide +kernel
theorem dX7_becomes_14 : decode cX7_becomes 14 = .ok (.iload_n 3, 1) := by decide +kernel
theorem dX7_becomes_15 : decode cX7_becomes 15 = .ok (.ireturn, 1) := by decide +kernel
theorem dX7_flameAt_0 : decode cX7_flameAt 0 = .ok (.bipush 14, 2) := by decide +kernel
theorem dX7_flameAt_2 : decode cX7_flameAt 2 = .ok (.bipush 7, 2) := by decide +kernel
theorem dX7_flameAt_4 : decode cX7_flameAt 4 = .ok (.iload_n 1, 1) := by decide +kernel
theorem dX7_flameAt_5 : decode cX7_flameAt 5 = .ok (.imul, 1) := by decide +kernel
theorem dX7_flameAt_6 : decode cX7_flameAt 6 = .ok (.iadd, 1) := by decide +kernel
theorem dX7_flameAt_7 : decode cX7_flameAt 7 = .ok (.ireturn, 1) := by decide +kernel
theorem dX7_textAt_0 : decode cX7_textAt 0 = .ok (.bipush 70, 2) := by decide +kernel
theorem dX7_textAt_2 : decode cX7_textAt 2 = .ok (.sipush 200, 3) := by decide +kernel
theorem dX7_textAt_5 : decode cX7_textAt 5 = .ok (.iload_n 1, 1) := by decide +kernel
theorem dX7_textAt_6 : decode cX7_textAt 6 = .ok (.imul, 1) := by decide +kernel
theorem dX7_textAt_7 : decode cX7_textAt 7 = .ok (.iadd, 1) := by decide +kernel
theorem dX7_textAt_8 : decode cX7_textAt 8 = .ok (.ireturn, 1) := by decide +kernel
theorem dX7_of_0 : decode cX7_of 0 = .ok (.aload_n 0, 1) := by decide +kernel
theorem dX7_of_1 : decode cX7_of 1 = .ok (.getfield 7, 3) := by decide +kernel
theorem dX7_of_4 : decode cX7_of 4 = .ok (.aload_n 0, 1) := by decide +kernel
theorem dX7_of_5 : decode cX7_of 5 = .ok (.iload_n 1, 1) := by decide +kernel
theorem dX7_of_6 : decode cX7_of 6 = .ok (.invokevirtual 72, 3) := by decide +kernel
theorem dX7_of_9 : decode cX7_of 9 = .ok (.iload_n 2, 1) := by decide +kernel
theorem dX7_of_10 : decode cX7_of 10 = .ok (.iadd, 1) := by decide +kernel
theorem dX7_of_11 : decode cX7_of 11 = .ok (.iaload, 1) := by decide +kernel
theorem dX7_of_12 : decode cX7_of 12 = .ok (.ireturn, 1) := by decide +kernel
theorem dX7_isFlame_0 : decode cX7_isFlame 0 = .ok (.iload_n 1, 1) := by decide +kernel
theorem dX7_isFlame_1 : decode cX7_isFlame 1 = .ok (.i2l, 1) := by decide +kernel
theorem dX7_isFlame_2 : decode cX7_isFlame 2 = .ok (.lconst 0, 1) := by decide +kernel
theorem dX7_isFlame_3 : decode cX7_isFlame 3 = .ok (.aload_n 0, 1) := by decide +kernel
theorem dX7_isFlame_4 : decode cX7_isFlame 4 = .ok (.getfield 7, 3) := by decide +kernel
theorem dX7_isFlame_7 : decode cX7_isFlame 7 = .ok (.iconst 0, 1) := by decide +kernel
theorem dX7_isFlame_8 : decode cX7_isFlame 8 = .ok (.iaload, 1) := by decide +kernel
theorem dX7_isFlame_9 : decode cX7_isFlame 9 = .ok (.iconst 1, 1) := by decide +kernel
theorem dX7_isFlame_10 : decode cX7_isFlame 10 = .ok (.isub, 1) := by decide +kernel
theorem dX7_isFlame_11 : decode cX7_isFlame 11 = .ok (.i2l, 1) := by decide +kernel
theorem dX7_isFlame_12 : decode cX7_isFlame 12 = .ok (.invokestatic 76, 3) := by decide +kernel
theorem dX7_isFlame_15 : decode cX7_isFlame 15 = .ok (.ireturn, 1) := by decide +kernel
theorem dX7_isText_0 : decode cX7_isText 0 = .ok (.iload_n 1, 1) := by decide +kernel
theorem dX7_isText_1 : decode cX7_isText 1 = .ok (.i2l, 1) := by decide +kernel
theorem dX7_isText_2 : decode cX7_isText 2 = .ok (.lconst 0, 1) := by decide +kernel
theorem dX7_isText_3 : decode cX7_isText 3 = .ok (.aload_n 0, 1) := by decide +kernel
theorem dX7_isText_4 : decode cX7_isText 4 = .ok (.getfield 7, 3) := by decide +kernel
theorem dX7_isText_7 : decode cX7_isText 7 = .ok (.iconst 1, 1) := by decide +kernel
theorem dX7_isText_8 : decode cX7_isText 8 = .ok (.iaload, 1) := by decide +kernel
theorem dX7_isText_9 : decode cX7_isText 9 = .ok (.iconst 1, 1) := by decide +kernel
theorem dX7_isText_10 : decode cX7_isText 10 = .ok (.isub, 1) := by decide +kernel
theorem dX7_isText_11 : decode cX7_isText 11 = .ok (.i2l, 1) := by decide +kernel
theorem dX7_isText_12 : decode cX7_isText 12 = .ok (.invokestatic 76, 3) := by decide +kernel
theorem dX7_isText_15 : decode cX7_isText 15 = .ok (.ireturn, 1) := by decide +kernel
theorem dX7_isLit_0 : decode cX7_isLit 0 = .ok (.aload_n 0, 1) := by decide +kernel
theorem dX7_isLit_1 : decode cX7_isLit 1 = .ok (.iload_n 1, 1) := by decide +kernel
theorem dX7_isLit_2 : decode cX7_isLit 2 = .ok (.iconst 5, 1) := by decide +kernel
theorem dX7_isLit_3 : decode cX7_isLit 3 = .ok (.invokevirtual 80, 3) := by decide +kernel
theorem dX7_isLit_6 : decode cX7_isLit 6 = .ok (.ifCond .le 7, 3) := by decide +kernel
theorem dX7_isLit_9 : decode cX7_isLit 9 = .ok (.iconst 1, 1) := by decide +kernel
theorem dX7_isLit_10 : decode cX7_isLit 10 = .ok (.goto 4, 3) := by decide +kernel
theorem dX7_isLit_13 : decode cX7_isLit 13 = .ok (.iconst 0, 1) := by decide +kernel
theorem dX7_isLit_14 : decode cX7_isLit 14 = .ok (.ireturn, 1) := by decide +kernel
theorem dX7_drawn_0 : decode cX7_drawn 0 = .ok (.aload_n 0, 1) := by decide +kernel
theorem dX7_drawn_1 : decode cX7_drawn 1 = .ok (.getfield 7, 3) := by decide +kernel
theorem dX7_drawn_4 : decode cX7_drawn 4 = .ok (.iconst 5, 1) := by decide +kernel
theorem dX7_drawn_5 : decode cX7_drawn 5 = .ok (.aload_n 0, 1) := by decide +kernel
theorem dX7_drawn_6 : decode cX7_drawn 6 = .ok (.getfield 7, 3) := by decide +kernel
theorem dX7_drawn_9 : decode cX7_drawn 9 = .ok (.iconst 5, 1) := by decide +kernel
theorem dX7_drawn_10 : decode cX7_drawn 10 = .ok (.iaload, 1) := by decide +kernel
theorem dX7_drawn_11 : decode cX7_drawn 11 = .ok (.ldc 84, 2) := by decide +kernel
theorem dX7_drawn_13 : decode cX7_drawn 13 = .ok (.imul, 1) := by decide +kernel
theorem dX7_drawn_14 : decode cX7_drawn 14 = .ok (.sipush 12345, 3) := by decide +kernel
theorem dX7_drawn_17 : decode cX7_drawn 17 = .ok (.iadd, 1) := by decide +kernel
theorem dX7_drawn_18 : decode cX7_drawn 18 = .ok (.iastore, 1) := by decide +kernel
theorem dX7_drawn_19 : decode cX7_drawn 19 = .ok (.aload_n 0, 1) := by decide +kernel
theorem dX7_drawn_20 : decode cX7_drawn 20 = .ok (.getfield 7, 3) := by decide +kernel
theorem dX7_drawn_23 : decode cX7_drawn 23 = .ok (.iconst 5, 1) := by decide +kernel
theorem dX7_drawn_24 : decode cX7_drawn 24 = .ok (.iaload, 1) := by decide +kernel
theorem dX7_drawn_25 : decode cX7_drawn 25 = .ok (.bipush 8, 2) := by decide +kernel
theorem dX7_drawn_27 : decode cX7_drawn 27 = .ok (.iushr, 1) := by decide +kernel
theorem dX7_drawn_28 : decode cX7_drawn 28 = .ok (.ireturn, 1) := by decide +kernel
theorem dX7_isPlace_0 : decode cX7_isPlace 0 = .ok (.iload_n 0, 1) := by decide +kernel
theorem dX7_isPlace_1 : decode cX7_isPlace 1 = .ok (.ifCond .lt 25, 3) := by decide +kernel
theorem dX7_isPlace_4 : decode cX7_isPlace 4 = .ok (.iload_n 0, 1) := by decide +kernel
theorem dX7_isPlace_5 : decode cX7_isPlace 5 = .ok (.bipush 100, 2) := by decide +kernel
theorem dX7_isPlace_7 : decode cX7_isPlace 7 = .ok (.idiv, 1) := by decide +kernel
theorem dX7_isPlace_8 : decode cX7_isPlace 8 = .ok (.bipush 30, 2) := by decide +kernel
theorem dX7_isPlace_10 : decode cX7_isPlace 10 = .ok (.if_icmp .ge 16, 3) := by decide +kernel
theorem dX7_isPlace_13 : decode cX7_isPlace 13 = .ok (.iload_n 0, 1) := by decide +kernel
theorem dX7_isPlace_14 : decode cX7_isPlace 14 = .ok (.bipush 100, 2) := by decide +kernel
theorem dX7_isPlace_16 : decode cX7_isPlace 16 = .ok (.irem, 1) := by decide +kernel
theorem dX7_isPlace_17 : decode cX7_isPlace 17 = .ok (.bipush 30, 2) := by decide +kernel
theorem dX7_isPlace_19 : decode cX7_isPlace 19 = .ok (.if_icmp .ge 7, 3) := by decide +kernel
theorem dX7_isPlace_22 : decode cX7_isPlace 22 = .ok (.iconst 1, 1) := by decide +kernel
theorem dX7_isPlace_23 : decode cX7_isPlace 23 = .ok (.goto 4, 3) := by decide +kernel
theorem dX7_isPlace_26 : decode cX7_isPlace 26 = .ok (.iconst 0, 1) := by decide +kernel
theorem dX7_isPlace_27 : decode cX7_isPlace 27 = .ok (.ireturn, 1) := by decide +kernel
theorem dX7_comes_0 : decode cX7_comes 0 = .ok (.aload_n 0, 1) := by decide +kernel
theorem dX7_comes_1 : decode cX7_comes 1 = .ok (.aload_n 0, 1) := by decide +kernel
theorem dX7_comes_2 : decode cX7_comes 2 = .ok (.getfield 7, 3) := by decide +kernel
theorem dX7_comes_5 : decode cX7_comes 5 = .ok (.iconst 0, 1) := by decide +kernel
theorem dX7_comes_6 : decode cX7_comes 6 = .ok (.iaload, 1) := by decide +kernel
theorem dX7_comes_7 : decode cX7_comes 7 = .ok (.invokevirtual 72, 3) := by decide +kernel
theorem dX7_comes_10 : decode cX7_comes 10 = .ok (.istore 6, 2) := by decide +kernel
theorem dX7_comes_12 : decode cX7_comes 12 = .ok (.aload_n 0, 1) := by decide +kernel
theorem dX7_comes_13 : decode cX7_comes 13 = .ok (.getfield 7, 3) := by decide +kernel
theorem dX7_comes_16 : decode cX7_comes 16 = .ok (.iload 6, 2) := by decide +kernel
theorem dX7_comes_18 : decode cX7_comes 18 = .ok (.iload_n 1, 1) := by decide +kernel
theorem dX7_comes_19 : decode cX7_comes 19 = .ok (.iastore, 1) := by decide +kernel
theorem dX7_comes_20 : decode cX7_comes 20 = .ok (.aload_n 0, 1) := by decide +kernel
theorem dX7_comes_21 : decode cX7_comes 21 = .ok (.getfield 7, 3) := by decide +kernel
theorem dX7_comes_24 : decode cX7_comes 24 = .ok (.iload 6, 2) := by decide +kernel
theorem dX7_comes_26 : decode cX7_comes 26 = .ok (.iconst 1, 1) := by decide +kernel
theorem dX7_comes_27 : decode cX7_comes 27 = .ok (.iadd, 1) := by decide +kernel
theorem dX7_comes_28 : decode cX7_comes 28 = .ok (.iload_n 2, 1) := by decide +kernel
theorem dX7_comes_29 : decode cX7_comes 29 = .ok (.iastore, 1) := by decide +kernel
theorem dX7_comes_30 : decode cX7_comes 30 = .ok (.aload_n 0, 1) := by decide +kernel
theorem dX7_comes_31 : decode cX7_comes 31 = .ok (.getfield 7, 3) := by decide +kernel
theorem dX7_comes_34 : decode cX7_comes 34 = .ok (.iload 6, 2) := by decide +kernel
theorem dX7_comes_36 : decode cX7_comes 36 = .ok (.iconst 2, 1) := by decide +kernel
theorem dX7_comes_37 : decode cX7_comes 37 = .ok (.iadd, 1) := by decide +kernel
theorem dX7_comes_38 : decode cX7_comes 38 = .ok (.iload_n 3, 1) := by decide +kernel
theorem dX7_comes_39 : decode cX7_comes 39 = .ok (.iastore, 1) := by decide +kernel
theorem dX7_comes_40 : decode cX7_comes 40 = .ok (.aload_n 0, 1) := by decide +kernel
theorem dX7_comes_41 : decode cX7_comes 41 = .ok (.getfield 7, 3) := by decide +kernel
theorem dX7_comes_44 : decode cX7_comes 44 = .ok (.iload 6, 2) := by decide +kernel
theorem dX7_comes_46 : decode cX7_comes 46 = .ok (.iconst 3, 1) := by decide +kernel
theorem dX7_comes_47 : decode cX7_comes 47 = .ok (.iadd, 1) := by decide +kernel
theorem dX7_comes_48 : decode cX7_comes 48 = .ok (.iload 4, 2) := by decide +kernel
theorem dX7_comes_50 : decode cX7_comes 50 = .ok (.iastore, 1) := by decide +kernel
theorem dX7_comes_51 : decode cX7_comes 51 = .ok (.aload_n 0, 1) := by decide +kernel
theorem dX7_comes_52 : decode cX7_comes 52 = .ok (.getfield 7, 3) := by decide +kernel
theorem dX7_comes_55 : decode cX7_comes 55 = .ok (.iload 6, 2) := by decide +kernel
theorem dX7_comes_57 : decode cX7_comes 57 = .ok (.iconst 4, 1) := by decide +kernel
theorem dX7_comes_58 : decode cX7_comes 58 = .ok (.iadd, 1) := by decide +kernel
theorem dX7_comes_59 : decode cX7_comes 59 = .ok (.iload 5, 2) := by decide +kernel
theorem dX7_comes_61 : decode cX7_comes 61 = .ok (.iastore, 1) := by decide +kernel
theorem dX7_comes_62 : decode cX7_comes 62 = .ok (.aload_n 0, 1) := by decide +kernel
theorem dX7_comes_63 : decode cX7_comes 63 = .ok (.getfield 7, 3) := by decide +kernel
theorem dX7_comes_66 : decode cX7_comes 66 = .ok (.iload 6, 2) := by decide +kernel
theorem dX7_comes_68 : decode cX7_comes 68 = .ok (.iconst 5, 1) := by decide +kernel
theorem dX7_comes_69 : decode cX7_comes 69 = .ok (.iadd, 1) := by decide +kernel
theorem dX7_comes_70 : decode cX7_comes 70 = .ok (.sipush 999, 3) := by decide +kernel
theorem dX7_comes_73 : decode cX7_comes 73 = .ok (.iastore, 1) := by decide +kernel
theorem dX7_comes_74 : decode cX7_comes 74 = .ok (.aload_n 0, 1) := by decide +kernel
theorem dX7_comes_75 : decode cX7_comes 75 = .ok (.getfield 7, 3) := by decide +kernel
theorem dX7_comes_78 : decode cX7_comes 78 = .ok (.iload 6, 2) := by decide +kernel
theorem dX7_comes_80 : decode cX7_comes 80 = .ok (.bipush 6, 2) := by decide +kernel
theorem dX7_comes_82 : decode cX7_comes 82 = .ok (.iadd, 1) := by decide +kernel
theorem dX7_comes_83 : decode cX7_comes 83 = .ok (.iconst 0, 1) := by decide +kernel
theorem dX7_comes_84 : decode cX7_comes 84 = .ok (.iastore, 1) := by decide +kernel
theorem dX7_comes_85 : decode cX7_comes 85 = .ok (.aload_n 0, 1) := by decide +kernel
theorem dX7_comes_86 : decode cX7_comes 86 = .ok (.getfield 7, 3) := by decide +kernel
theorem dX7_comes_89 : decode cX7_comes 89 = .ok (.bipush 6, 2) := by decide +kernel
theorem dX7_comes_91 : decode cX7_comes 91 = .ok (.aload_n 0, 1) := by decide +kernel
theorem dX7_comes_92 : decode cX7_comes 92 = .ok (.getfield 7, 3) := by decide +kernel
theorem dX7_comes_95 : decode cX7_comes 95 = .ok (.iconst 0, 1) := by decide +kernel
theorem dX7_comes_96 : decode cX7_comes 96 = .ok (.iaload, 1) := by decide +kernel
theorem dX7_comes_97 : decode cX7_comes 97 = .ok (.iadd, 1) := by decide +kernel
theorem dX7_comes_98 : decode cX7_comes 98 = .ok (.iconst 0, 1) := by decide +kernel
theorem dX7_comes_99 : decode cX7_comes 99 = .ok (.iastore, 1) := by decide +kernel
theorem dX7_comes_100 : decode cX7_comes 100 = .ok (.aload_n 0, 1) := by decide +kernel
theorem dX7_comes_101 : decode cX7_comes 101 = .ok (.getfield 7, 3) := by decide +kernel
theorem dX7_comes_104 : decode cX7_comes 104 = .ok (.iconst 0, 1) := by decide +kernel
theorem dX7_comes_105 : decode cX7_comes 105 = .ok (.dup2, 1) := by decide +kernel
theorem dX7_comes_106 : decode cX7_comes 106 = .ok (.iaload, 1) := by decide +kernel
theorem dX7_comes_107 : decode cX7_comes 107 = .ok (.iconst 1, 1) := by decide +kernel
theorem dX7_comes_108 : decode cX7_comes 108 = .ok (.iadd, 1) := by decide +kernel
theorem dX7_comes_109 : decode cX7_comes 109 = .ok (.iastore, 1) := by decide +kernel
theorem dX7_comes_110 : decode cX7_comes 110 = .ok (.return_, 1) := by decide +kernel
theorem dX7_flame_0 : decode cX7_flame 0 = .ok (.iload_n 1, 1) := by decide +kernel
theorem dX7_flame_1 : decode cX7_flame 1 = .ok (.i2l, 1) := by decide +kernel
theorem dX7_flame_2 : decode cX7_flame 2 = .ok (.lconst 0, 1) := by decide +kernel
theorem dX7_flame_3 : decode cX7_flame 3 = .ok (.ldc2_w 85, 3) := by decide +kernel
theorem dX7_flame_6 : decode cX7_flame 6 = .ok (.invokestatic 76, 3) := by decide +kernel
theorem dX7_flame_9 : decode cX7_flame 9 = .ok (.ifCond .eq 22, 3) := by decide +kernel
theorem dX7_flame_12 : decode cX7_flame 12 = .ok (.iload_n 2, 1) := by decide +kernel
theorem dX7_flame_13 : decode cX7_flame 13 = .ok (.invokestatic 87, 3) := by decide +kernel
theorem dX7_flame_16 : decode cX7_flame 16 = .ok (.ifCond .eq 15, 3) := by decide +kernel
theorem dX7_flame_19 : decode cX7_flame 19 = .ok (.iload_n 3, 1) := by decide +kernel
theorem dX7_flame_20 : decode cX7_flame 20 = .ok (.i2l, 1) := by decide +kernel
theorem dX7_flame_21 : decode cX7_flame 21 = .ok (.lconst 1, 1) := by decide +kernel
theorem dX7_flame_22 : decode cX7_flame 22 = .ok (.ldc2_w 91, 3) := by decide +kernel
theorem dX7_flame_25 : decode cX7_flame 25 = .ok (.invokestatic 76, 3) := by decide +kernel
theorem dX7_flame_28 : decode cX7_flame 28 = .ok (.ifCond .ne 6, 3) := by decide +kernel
theorem dX7_flame_31 : decode cX7_flame 31 = .ok (.ldc 93, 2) := by decide +kernel
theorem dX7_flame_33 : decode cX7_flame 33 = .ok (.ireturn, 1) := by decide +kernel
theorem dX7_flame_34 : decode cX7_flame 34 = .ok (.aload_n 0, 1) := by decide +kernel
theorem dX7_flame_35 : decode cX7_flame 35 = .ok (.getfield 7, 3) := by decide +kernel
theorem dX7_flame_38 : decode cX7_flame 38 = .ok (.iconst 0, 1) := by decide +kernel
theorem dX7_flame_39 : decode cX7_flame 39 = .ok (.iaload, 1) := by decide +kernel
theorem dX7_flame_40 : decode cX7_flame 40 = .ok (.bipush 8, 2) := by decide +kernel
theorem dX7_flame_42 : decode cX7_flame 42 = .ok (.if_icmp .ne 6, 3) := by decide +kernel
theorem dX7_flame_45 : decode cX7_flame 45 = .ok (.ldc 94, 2) := by decide +kernel
theorem dX7_flame_47 : decode cX7_flame 47 = .ok (.ireturn, 1) := by decide +kernel
theorem dX7_flame_48 : decode cX7_flame 48 = .ok (.aload_n 0, 1) := by decide +kernel
theorem dX7_flame_49 : decode cX7_flame 49 = .ok (.iload_n 1, 1) := by decide +kernel
theorem dX7_flame_50 : decode cX7_flame 50 = .ok (.iload_n 2, 1) := by decide +kernel
theorem dX7_flame_51 : decode cX7_flame 51 = .ok (.bipush 100, 2) := by decide +kernel
theorem dX7_flame_53 : decode cX7_flame 53 = .ok (.idiv, 1) := by decide +kernel
theorem dX7_flame_54 : decode cX7_flame 54 = .ok (.iload_n 2, 1) := by decide +kernel
theorem dX7_flame_55 : decode cX7_flame 55 = .ok (.bipush 100, 2) := by decide +kernel
theorem dX7_flame_57 : decode cX7_flame 57 = .ok (.irem, 1) := by decide +kernel
theorem dX7_flame_58 : decode cX7_flame 58 = .ok (.iload_n 3, 1) := by decide +kernel
theorem dX7_flame_59 : decode cX7_flame 59 = .ok (.iconst 0, 1) := by decide +kernel
theorem dX7_flame_60 : decode cX7_flame 60 = .ok (.invokevirtual 95, 3) := by decide +kernel
theorem dX7_flame_63 : decode cX7_flame 63 = .ok (.aload_n 0, 1) := by decide +kernel
theorem dX7_flame_64 : decode cX7_flame 64 = .ok (.getfield 7, 3) := by decide +kernel
theorem dX7_flame_67 : decode cX7_flame 67 = .ok (.iconst 0, 1) := by decide +kernel
theorem dX7_flame_68 : decode cX7_flame 68 = .ok (.iaload, 1) := by decide +kernel
theorem dX7_flame_69 : decode cX7_flame 69 = .ok (.iconst 1, 1) := by decide +kernel
theorem dX7_flame_70 : decode cX7_flame 70 = .ok (.isub, 1) := by decide +kernel
theorem dX7_flame_71 : decode cX7_flame 71 = .ok (.ireturn, 1) := by decide +kernel
theorem dX7_pace_0 : decode cX7_pace 0 = .ok (.aload_n 0, 1) := by decide +kernel
theorem dX7_pace_1 : decode cX7_pace 1 = .ok (.iload_n 1, 1) := by decide +kernel
theorem dX7_pace_2 : decode cX7_pace 2 = .ok (.iconst 3, 1) := by decide +kernel
theorem dX7_pace_3 : decode cX7_pace 3 = .ok (.invokevirtual 80, 3) := by decide +kernel
theorem dX7_pace_6 : decode cX7_pace 6 = .ok (.istore_n 2, 1) := by decide +kernel
theorem dX7_pace_7 : decode cX7_pace 7 = .ok (.bipush 12, 2) := by decide +kernel
theorem dX7_pace_9 : decode cX7_pace 9 = .ok (.iload_n 2, 1) := by decide +kernel
theorem dX7_pace_10 : decode cX7_pace 10 = .ok (.isub, 1) := by decide +kernel
theorem dX7_pace_11 : decode cX7_pace 11 = .ok (.istore_n 3, 1) := by decide +kernel
theorem dX7_pace_12 : decode cX7_pace 12 = .ok (.aload_n 0, 1) := by decide +kernel
theorem dX7_pace_13 : decode cX7_pace 13 = .ok (.iconst 0, 1) := by decide +kernel
theorem dX7_pace_14 : decode cX7_pace 14 = .ok (.invokevirtual 99, 3) := by decide +kernel
theorem dX7_pace_17 : decode cX7_pace 17 = .ok (.istore 4, 2) := by decide +kernel
theorem dX7_pace_19 : decode cX7_pace 19 = .ok (.iload 4, 2) := by decide +kernel
theorem dX7_pace_21 : decode cX7_pace 21 = .ok (.ifCond .lt 32, 3) := by decide +kernel
theorem dX7_pace_24 : decode cX7_pace 24 = .ok (.aload_n 0, 1) := by decide +kernel
theorem dX7_pace_25 : decode cX7_pace 25 = .ok (.getfield 56, 3) := by decide +kernel
theorem dX7_pace_28 : decode cX7_pace 28 = .ok (.bipush 115, 2) := by decide +kernel
theorem dX7_pace_30 : decode cX7_pace 30 = .ok (.iload_n 2, 1) := by decide +kernel
theorem dX7_pace_31 : decode cX7_pace 31 = .ok (.iastore, 1) := by decide +kernel
theorem dX7_pace_32 : decode cX7_pace 32 = .ok (.aload_n 0, 1) := by decide +kernel
theorem dX7_pace_33 : decode cX7_pace 33 = .ok (.getfield 56, 3) := by decide +kernel
theorem dX7_pace_36 : decode cX7_pace 36 = .ok (.bipush 110, 2) := by decide +kernel
theorem dX7_pace_38 : decode cX7_pace 38 = .ok (.iload_n 1, 1) := by decide +kernel
theorem dX7_pace_39 : decode cX7_pace 39 = .ok (.iastore, 1) := by decide +kernel
theorem dX7_pace_40 : decode cX7_pace 40 = .ok (.aload_n 0, 1) := by decide +kernel
theorem dX7_pace_41 : decode cX7_pace 41 = .ok (.iload 4, 2) := by decide +kernel
theorem dX7_pace_43 : decode cX7_pace 43 = .ok (.invokevirtual 102, 3) := by decide +kernel
theorem dX7_pace_46 : decode cX7_pace 46 = .ok (.iconst 0, 1) := by decide +kernel
theorem dX7_pace_47 : decode cX7_pace 47 = .ok (.bipush 40, 2) := by decide +kernel
theorem dX7_pace_49 : decode cX7_pace 49 = .ok (.invokestatic 105, 3) := by decide +kernel
theorem dX7_pace_52 : decode cX7_pace 52 = .ok (.istore_n 3, 1) := by decide +kernel
theorem dX7_pace_53 : decode cX7_pace 53 = .ok (.aload_n 0, 1) := by decide +kernel
theorem dX7_pace_54 : decode cX7_pace 54 = .ok (.iload_n 1, 1) := by decide +kernel
theorem dX7_pace_55 : decode cX7_pace 55 = .ok (.iconst 0, 1) := by decide +kernel
theorem dX7_pace_56 : decode cX7_pace 56 = .ok (.invokevirtual 80, 3) := by decide +kernel
theorem dX7_pace_59 : decode cX7_pace 59 = .ok (.tableswitch 53 1 5 #[33, 37, 41, 47, 49], 33) := by decide +kernel
theorem dX7_pace_92 : decode cX7_pace 92 = .ok (.iload_n 3, 1) := by decide +kernel
theorem dX7_pace_93 : decode cX7_pace 93 = .ok (.iconst 1, 1) := by decide +kernel
theorem dX7_pace_94 : decode cX7_pace 94 = .ok (.iadd, 1) := by decide +kernel
theorem dX7_pace_95 : decode cX7_pace 95 = .ok (.ireturn, 1) := by decide +kernel
theorem dX7_pace_96 : decode cX7_pace 96 = .ok (.iload_n 3, 1) := by decide +kernel
theorem dX7_pace_97 : decode cX7_pace 97 = .ok (.iconst 2, 1) := by decide +kernel
theorem dX7_pace_98 : decode cX7_pace 98 = .ok (.idiv, 1) := by decide +kernel
theorem dX7_pace_99 : decode cX7_pace 99 = .ok (.ireturn, 1) := by decide +kernel
theorem dX7_pace_100 : decode cX7_pace 100 = .ok (.iconst 2, 1) := by decide +kernel
theorem dX7_pace_101 : decode cX7_pace 101 = .ok (.iload_n 3, 1) := by decide +kernel
theorem dX7_pace_102 : decode cX7_pace 102 = .ok (.iconst 1, 1) := by decide +kernel
theorem dX7_pace_103 : decode cX7_pace 103 = .ok (.iadd, 1) := by decide +kernel
theorem dX7_pace_104 : decode cX7_pace 104 = .ok (.imul, 1) := by decide +kernel
theorem dX7_pace_105 : decode cX7_pace 105 = .ok (.ireturn, 1) := by decide +kernel
theorem dX7_pace_106 : decode cX7_pace 106 = .ok (.iconst 0, 1) := by decide +kernel
theorem dX7_pace_107 : decode cX7_pace 107 = .ok (.ireturn, 1) := by decide +kernel
theorem dX7_pace_108 : decode cX7_pace 108 = .ok (.iload_n 3, 1) := by decide +kernel
theorem dX7_pace_109 : decode cX7_pace 109 = .ok (.iconst 2, 1) := by decide +kernel
theorem dX7_pace_110 : decode cX7_pace 110 = .ok (.iadd, 1) := by decide +kernel
theorem dX7_pace_111 : decode cX7_pace 111 = .ok (.ireturn, 1) := by decide +kernel
theorem dX7_pace_112 : decode cX7_pace 112 = .ok (.iload_n 3, 1) := by decide +kernel
theorem dX7_pace_113 : decode cX7_pace 113 = .ok (.ireturn, 1) := by decide +kernel
theorem dX7_worth_0 : decode cX7_worth 0 = .ok (.aload_n 0, 1) := by decide +kernel
theorem dX7_worth_1 : decode cX7_worth 1 = .ok (.iload_n 1, 1) := by decide +kernel
theorem dX7_worth_2 : decode cX7_worth 2 = .ok (.iconst 3, 1) := by decide +kernel
theorem dX7_worth_3 : decode cX7_worth 3 = .ok (.invokevirtual 80, 3) := by decide +kernel
theorem dX7_worth_6 : decode cX7_worth 6 = .ok (.istore_n 2, 1) := by decide +kernel
theorem dX7_worth_7 : decode cX7_worth 7 = .ok (.aload_n 0, 1) := by decide +kernel
theorem dX7_worth_8 : decode cX7_worth 8 = .ok (.iload_n 1, 1) := by decide +kernel
theorem dX7_worth_9 : decode cX7_worth 9 = .ok (.iconst 0, 1) := by decide +kernel
theorem dX7_worth_10 : decode cX7_worth 10 = .ok (.invokevirtual 80, 3) := by decide +kernel
theorem dX7_worth_13 : decode cX7_worth 13 = .ok (.tableswitch 59 1 5 #[35, 39, 44, 50, 55], 35) := by decide +kernel
theorem dX7_worth_48 : decode cX7_worth 48 = .ok (.iload_n 2, 1) := by decide +kernel
theorem dX7_worth_49 : decode cX7_worth 49 = .ok (.iconst 4, 1) := by decide +kernel
theorem dX7_worth_50 : decode cX7_worth 50 = .ok (.iadd, 1) := by decide +kernel
theorem dX7_worth_51 : decode cX7_worth 51 = .ok (.ireturn, 1) := by decide +kernel
theorem dX7_worth_52 : decode cX7_worth 52 = .ok (.bipush 9, 2) := by decide +kernel
theorem dX7_worth_54 : decode cX7_worth 54 = .ok (.iload_n 2, 1) := by decide +kernel
theorem dX7_worth_55 : decode cX7_worth 55 = .ok (.isub, 1) := by decide +kernel
theorem dX7_worth_56 : decode cX7_worth 56 = .ok (.ireturn, 1) := by decide +kernel
theorem dX7_worth_57 : decode cX7_worth 57 = .ok (.iconst 2, 1) := by decide +kernel
theorem dX7_worth_58 : decode cX7_worth 58 = .ok (.iload_n 2, 1) := by decide +kernel
theorem dX7_worth_59 : decode cX7_worth 59 = .ok (.iconst 4, 1) := by decide +kernel
theorem dX7_worth_60 : decode cX7_worth 60 = .ok (.iadd, 1) := by decide +kernel
theorem dX7_worth_61 : decode cX7_worth 61 = .ok (.imul, 1) := by decide +kernel
theorem dX7_worth_62 : decode cX7_worth 62 = .ok (.ireturn, 1) := by decide +kernel
theorem dX7_worth_63 : decode cX7_worth 63 = .ok (.bipush 7, 2) := by decide +kernel
theorem dX7_worth_65 : decode cX7_worth 65 = .ok (.iload_n 2, 1) := by decide +kernel
theorem dX7_worth_66 : decode cX7_worth 66 = .ok (.isub, 1) := by decide +kernel
theorem dX7_worth_67 : decode cX7_worth 67 = .ok (.ireturn, 1) := by decide +kernel
theorem dX7_worth_68 : decode cX7_worth 68 = .ok (.iload_n 2, 1) := by decide +kernel
theorem dX7_worth_69 : decode cX7_worth 69 = .ok (.iload_n 2, 1) := by decide +kernel
theorem dX7_worth_70 : decode cX7_worth 70 = .ok (.imul, 1) := by decide +kernel
theorem dX7_worth_71 : decode cX7_worth 71 = .ok (.ireturn, 1) := by decide +kernel
theorem dX7_worth_72 : decode cX7_worth 72 = .ok (.iload_n 2, 1) := by decide +kernel
theorem dX7_worth_73 : decode cX7_worth 73 = .ok (.ireturn, 1) := by decide +kernel
theorem dX7_off_0 : decode cX7_off 0 = .ok (.iload_n 0, 1) := by decide +kernel
theorem dX7_off_1 : decode cX7_off 1 = .ok (.iload_n 1, 1) := by decide +kernel
theorem dX7_off_2 : decode cX7_off 2 = .ok (.if_icmp .le 9, 3) := by decide +kernel
theorem dX7_off_5 : decode cX7_off 5 = .ok (.iload_n 0, 1) := by decide +kernel
theorem dX7_off_6 : decode cX7_off 6 = .ok (.iload_n 1, 1) := by decide +kernel
theorem dX7_off_7 : decode cX7_off 7 = .ok (.isub, 1) := by decide +kernel
theorem dX7_off_8 : decode cX7_off 8 = .ok (.goto 6, 3) := by decide +kernel
theorem dX7_off_11 : decode cX7_off 11 = .ok (.iload_n 1, 1) := by decide +kernel
theorem dX7_off_12 : decode cX7_off 12 = .ok (.iload_n 0, 1) := by decide +kernel
theorem dX7_off_13 : decode cX7_off 13 = .ok (.isub, 1) := by decide +kernel
theorem dX7_off_14 : decode cX7_off 14 = .ok (.ireturn, 1) := by decide +kernel
theorem dX7_ahead_0 : decode cX7_ahead 0 = .ok (.iload_n 0, 1) := by decide +kernel
theorem dX7_ahead_1 : decode cX7_ahead 1 = .ok (.iload_n 1, 1) := by decide +kernel
theorem dX7_ahead_2 : decode cX7_ahead 2 = .ok (.isub, 1) := by decide +kernel
theorem dX7_ahead_3 : decode cX7_ahead 3 = .ok (.istore_n 2, 1) := by decide +kernel
theorem dX7_ahead_4 : decode cX7_ahead 4 = .ok (.iload_n 2, 1) := by decide +kernel
theorem dX7_ahead_5 : decode cX7_ahead 5 = .ok (.bipush (-60), 2) := by decide +kernel
theorem dX7_ahead_7 : decode cX7_ahead 7 = .ok (.if_icmp .ge 10, 3) := by decide +kernel
theorem dX7_ahead_10 : decode cX7_ahead 10 = .ok (.iload_n 2, 1) := by decide +kernel
theorem dX7_ahead_11 : decode cX7_ahead 11 = .ok (.bipush 120, 2) := by decide +kernel
theorem dX7_ahead_13 : decode cX7_ahead 13 = .ok (.iadd, 1) := by decide +kernel
theorem dX7_ahead_14 : decode cX7_ahead 14 = .ok (.goto 17, 3) := by decide +kernel
theorem dX7_ahead_17 : decode cX7_ahead 17 = .ok (.iload_n 2, 1) := by decide +kernel
theorem dX7_ahead_18 : decode cX7_ahead 18 = .ok (.bipush 59, 2) := by decide +kernel
theorem dX7_ahead_20 : decode cX7_ahead 20 = .ok (.if_icmp .le 10, 3) := by decide +kernel
theorem dX7_ahead_23 : decode cX7_ahead 23 = .ok (.iload_n 2, 1) := by decide +kernel
theorem dX7_ahead_24 : decode cX7_ahead 24 = .ok (.bipush 120, 2) := by decide +kernel
theorem dX7_ahead_26 : decode cX7_ahead 26 = .ok (.isub, 1) := by decide +kernel
theorem dX7_ahead_27 : decode cX7_ahead 27 = .ok (.goto 4, 3) := by decide +kernel
theorem dX7_ahead_30 : decode cX7_ahead 30 = .ok (.iload_n 2, 1) := by decide +kernel
theorem dX7_ahead_31 : decode cX7_ahead 31 = .ok (.ireturn, 1) := by decide +kernel
theorem dX7_pushOf_0 : decode cX7_pushOf 0 = .ok (.aload_n 0, 1) := by decide +kernel
theorem dX7_pushOf_1 : decode cX7_pushOf 1 = .ok (.iload_n 1, 1) := by decide +kernel
theorem dX7_pushOf_2 : decode cX7_pushOf 2 = .ok (.invokevirtual 109, 3) := by decide +kernel
theorem dX7_pushOf_5 : decode cX7_pushOf 5 = .ok (.ifCond .eq 28, 3) := by decide +kernel
theorem dX7_pushOf_8 : decode cX7_pushOf 8 = .ok (.aload_n 0, 1) := by decide +kernel
theorem dX7_pushOf_9 : decode cX7_pushOf 9 = .ok (.iload_n 2, 1) := by decide +kernel
theorem dX7_pushOf_10 : decode cX7_pushOf 10 = .ok (.invokevirtual 109, 3) := by decide +kernel
theorem dX7_pushOf_13 : decode cX7_pushOf 13 = .ok (.ifCond .eq 20, 3) := by decide +kernel
theorem dX7_pushOf_16 : decode cX7_pushOf 16 = .ok (.aload_n 0, 1) := by decide +kernel
theorem dX7_pushOf_17 : decode cX7_pushOf 17 = .ok (.getfield 7, 3) := by decide +kernel
theorem dX7_pushOf_20 : decode cX7_pushOf 20 = .ok (.bipush 6, 2) := by decide +kernel
theorem dX7_pushOf_22 : decode cX7_pushOf 22 = .ok (.iload_n 1, 1) := by decide +kernel
theorem dX7_pushOf_23 : decode cX7_pushOf 23 = .ok (.iadd, 1) := by decide +kernel
theorem dX7_pushOf_24 : decode cX7_pushOf 24 = .ok (.iaload, 1) := by decide +kernel
theorem dX7_pushOf_25 : decode cX7_pushOf 25 = .ok (.iload_n 2, 1) := by decide +kernel
theorem dX7_pushOf_26 : decode cX7_pushOf 26 = .ok (.ishr, 1) := by decide +kernel
theorem dX7_pushOf_27 : decode cX7_pushOf 27 = .ok (.iconst 1, 1) := by decide +kernel
theorem dX7_pushOf_28 : decode cX7_pushOf 28 = .ok (.iand, 1) := by decide +kernel
theorem dX7_pushOf_29 : decode cX7_pushOf 29 = .ok (.iconst 1, 1) := by decide +kernel
theorem dX7_pushOf_30 : decode cX7_pushOf 30 = .ok (.if_icmp .ne 5, 3) := by decide +kernel
theorem dX7_pushOf_33 : decode cX7_pushOf 33 = .ok (.iconst 0, 1) := by decide +kernel
theorem dX7_pushOf_34 : decode cX7_pushOf 34 = .ok (.ireturn, 1) := by decide +kernel
theorem dX7_pushOf_35 : decode cX7_pushOf 35 = .ok (.aload_n 0, 1) := by decide +kernel
theorem dX7_pushOf_36 : decode cX7_pushOf 36 = .ok (.iload_n 1, 1) := by decide +kernel
theorem dX7_pushOf_37 : decode cX7_pushOf 37 = .ok (.iconst 1, 1) := by decide +kernel
theorem dX7_pushOf_38 : decode cX7_pushOf 38 = .ok (.invokevirtual 80, 3) := by decide +kernel
theorem dX7_pushOf_41 : decode cX7_pushOf 41 = .ok (.aload_n 0, 1) := by decide +kernel
theorem dX7_pushOf_42 : decode cX7_pushOf 42 = .ok (.iload_n 2, 1) := by decide +kernel
theorem dX7_pushOf_43 : decode cX7_pushOf 43 = .ok (.iconst 1, 1) := by decide +kernel
theorem dX7_pushOf_44 : decode cX7_pushOf 44 = .ok (.invokevirtual 80, 3) := by decide +kernel
theorem dX7_pushOf_47 : decode cX7_pushOf 47 = .ok (.invokestatic 112, 3) := by decide +kernel
theorem dX7_pushOf_50 : decode cX7_pushOf 50 = .ok (.aload_n 0, 1) := by decide +kernel
theorem dX7_pushOf_51 : decode cX7_pushOf 51 = .ok (.iload_n 1, 1) := by decide +kernel
theorem dX7_pushOf_52 : decode cX7_pushOf 52 = .ok (.iconst 2, 1) := by decide +kernel
theorem dX7_pushOf_53 : decode cX7_pushOf 53 = .ok (.invokevirtual 80, 3) := by decide +kernel
theorem dX7_pushOf_56 : decode cX7_pushOf 56 = .ok (.aload_n 0, 1) := by decide +kernel
theorem dX7_pushOf_57 : decode cX7_pushOf 57 = .ok (.iload_n 2, 1) := by decide +kernel
theorem dX7_pushOf_58 : decode cX7_pushOf 58 = .ok (.iconst 2, 1) := by decide +kernel
theorem dX7_pushOf_59 : decode cX7_pushOf 59 = .ok (.invokevirtual 80, 3) := by decide +kernel
theorem dX7_pushOf_62 : decode cX7_pushOf 62 = .ok (.invokestatic 112, 3) := by decide +kernel
theorem dX7_pushOf_65 : decode cX7_pushOf 65 = .ok (.iadd, 1) := by decide +kernel
theorem dX7_pushOf_66 : decode cX7_pushOf 66 = .ok (.istore_n 3, 1) := by decide +kernel
theorem dX7_pushOf_67 : decode cX7_pushOf 67 = .ok (.aload_n 0, 1) := by decide +kernel
theorem dX7_pushOf_68 : decode cX7_pushOf 68 = .ok (.iload_n 2, 1) := by decide +kernel
theorem dX7_pushOf_69 : decode cX7_pushOf 69 = .ok (.iconst 4, 1) := by decide +kernel
theorem dX7_pushOf_70 : decode cX7_pushOf 70 = .ok (.invokevirtual 80, 3) := by decide +kernel
theorem dX7_pushOf_73 : decode cX7_pushOf 73 = .ok (.aload_n 0, 1) := by decide +kernel
theorem dX7_pushOf_74 : decode cX7_pushOf 74 = .ok (.iload_n 1, 1) := by decide +kernel
theorem dX7_pushOf_75 : decode cX7_pushOf 75 = .ok (.iconst 4, 1) := by decide +kernel
theorem dX7_pushOf_76 : decode cX7_pushOf 76 = .ok (.invokevirtual 80, 3) := by decide +kernel
theorem dX7_pushOf_79 : decode cX7_pushOf 79 = .ok (.invokestatic 115, 3) := by decide +kernel
theorem dX7_pushOf_82 : decode cX7_pushOf 82 = .ok (.istore 4, 2) := by decide +kernel
theorem dX7_pushOf_84 : decode cX7_pushOf 84 = .ok (.aload_n 0, 1) := by decide +kernel
theorem dX7_pushOf_85 : decode cX7_pushOf 85 = .ok (.iconst 1, 1) := by decide +kernel
theorem dX7_pushOf_86 : decode cX7_pushOf 86 = .ok (.invokevirtual 99, 3) := by decide +kernel
theorem dX7_pushOf_89 : decode cX7_pushOf 89 = .ok (.istore 5, 2) := by decide +kernel
theorem dX7_pushOf_91 : decode cX7_pushOf 91 = .ok (.iload 5, 2) := by decide +kernel
theorem dX7_pushOf_93 : decode cX7_pushOf 93 = .ok (.ifCond .ge 40, 3) := by decide +kernel
theorem dX7_pushOf_96 : decode cX7_pushOf 96 = .ok (.iload_n 3, 1) := by decide +kernel
theorem dX7_pushOf_97 : decode cX7_pushOf 97 = .ok (.aload_n 0, 1) := by decide +kernel
theorem dX7_pushOf_98 : decode cX7_pushOf 98 = .ok (.getfield 7, 3) := by decide +kernel
theorem dX7_pushOf_101 : decode cX7_pushOf 101 = .ok (.iconst 3, 1) := by decide +kernel
theorem dX7_pushOf_102 : decode cX7_pushOf 102 = .ok (.iaload, 1) := by decide +kernel
theorem dX7_pushOf_103 : decode cX7_pushOf 103 = .ok (.if_icmp .gt 10, 3) := by decide +kernel
theorem dX7_pushOf_106 : decode cX7_pushOf 106 = .ok (.iload 4, 2) := by decide +kernel
theorem dX7_pushOf_108 : decode cX7_pushOf 108 = .ok (.iconst 4, 1) := by decide +kernel
theorem dX7_pushOf_109 : decode cX7_pushOf 109 = .ok (.idiv, 1) := by decide +kernel
theorem dX7_pushOf_110 : decode cX7_pushOf 110 = .ok (.goto 22, 3) := by decide +kernel
theorem dX7_pushOf_113 : decode cX7_pushOf 113 = .ok (.iload_n 3, 1) := by decide +kernel
theorem dX7_pushOf_114 : decode cX7_pushOf 114 = .ok (.aload_n 0, 1) := by decide +kernel
theorem dX7_pushOf_115 : decode cX7_pushOf 115 = .ok (.getfield 7, 3) := by decide +kernel
theorem dX7_pushOf_118 : decode cX7_pushOf 118 = .ok (.iconst 4, 1) := by decide +kernel
theorem dX7_pushOf_119 : decode cX7_pushOf 119 = .ok (.iaload, 1) := by decide +kernel
theorem dX7_pushOf_120 : decode cX7_pushOf 120 = .ok (.if_icmp .gt 11, 3) := by decide +kernel
theorem dX7_pushOf_123 : decode cX7_pushOf 123 = .ok (.iload 4, 2) := by decide +kernel
theorem dX7_pushOf_125 : decode cX7_pushOf 125 = .ok (.ineg, 1) := by decide +kernel
theorem dX7_pushOf_126 : decode cX7_pushOf 126 = .ok (.iconst 4, 1) := by decide +kernel
theorem dX7_pushOf_127 : decode cX7_pushOf 127 = .ok (.idiv, 1) := by decide +kernel
theorem dX7_pushOf_128 : decode cX7_pushOf 128 = .ok (.goto 4, 3) := by decide +kernel
theorem dX7_pushOf_131 : decode cX7_pushOf 131 = .ok (.iconst 0, 1) := by decide +kernel
theorem dX7_pushOf_132 : decode cX7_pushOf 132 = .ok (.ireturn, 1) := by decide +kernel
theorem dX7_pushOf_133 : decode cX7_pushOf 133 = .ok (.aload_n 0, 1) := by decide +kernel
theorem dX7_pushOf_134 : decode cX7_pushOf 134 = .ok (.getfield 56, 3) := by decide +kernel
theorem dX7_pushOf_137 : decode cX7_pushOf 137 = .ok (.bipush 100, 2) := by decide +kernel
theorem dX7_pushOf_139 : decode cX7_pushOf 139 = .ok (.iload_n 3, 1) := by decide +kernel
theorem dX7_pushOf_140 : decode cX7_pushOf 140 = .ok (.iastore, 1) := by decide +kernel
theorem dX7_pushOf_141 : decode cX7_pushOf 141 = .ok (.aload_n 0, 1) := by decide +kernel
theorem dX7_pushOf_142 : decode cX7_pushOf 142 = .ok (.getfield 56, 3) := by decide +kernel
theorem dX7_pushOf_145 : decode cX7_pushOf 145 = .ok (.bipush 112, 2) := by decide +kernel
theorem dX7_pushOf_147 : decode cX7_pushOf 147 = .ok (.iload 4, 2) := by decide +kernel
theorem dX7_pushOf_149 : decode cX7_pushOf 149 = .ok (.iastore, 1) := by decide +kernel
theorem dX7_pushOf_150 : decode cX7_pushOf 150 = .ok (.aload_n 0, 1) := by decide +kernel
theorem dX7_pushOf_151 : decode cX7_pushOf 151 = .ok (.getfield 56, 3) := by decide +kernel
theorem dX7_pushOf_154 : decode cX7_pushOf 154 = .ok (.bipush 115, 2) := by decide +kernel
theorem dX7_pushOf_156 : decode cX7_pushOf 156 = .ok (.aload_n 0, 1) := by decide +kernel
theorem dX7_pushOf_157 : decode cX7_pushOf 157 = .ok (.iload_n 2, 1) := by decide +kernel
theorem dX7_pushOf_158 : decode cX7_pushOf 158 = .ok (.iconst 3, 1) := by decide +kernel
theorem dX7_pushOf_159 : decode cX7_pushOf 159 = .ok (.invokevirtual 80, 3) := by decide +kernel
theorem dX7_pushOf_162 : decode cX7_pushOf 162 = .ok (.iastore, 1) := by decide +kernel
theorem dX7_pushOf_163 : decode cX7_pushOf 163 = .ok (.aload_n 0, 1) := by decide +kernel
theorem dX7_pushOf_164 : decode cX7_pushOf 164 = .ok (.iload 5, 2) := by decide +kernel
theorem dX7_pushOf_166 : decode cX7_pushOf 166 = .ok (.invokevirtual 102, 3) := by decide +kernel
theorem dX7_pushOf_169 : decode cX7_pushOf 169 = .ok (.bipush (-20), 2) := by decide +kernel
theorem dX7_pushOf_171 : decode cX7_pushOf 171 = .ok (.bipush 20, 2) := by decide +kernel
theorem dX7_pushOf_173 : decode cX7_pushOf 173 = .ok (.invokestatic 105, 3) := by decide +kernel
theorem dX7_pushOf_176 : decode cX7_pushOf 176 = .ok (.ireturn, 1) := by decide +kernel
theorem dX7_pushes_0 : decode cX7_pushes 0 = .ok (.iconst 0, 1) := by decide +kernel
theorem dX7_pushes_1 : decode cX7_pushes 1 = .ok (.istore_n 2, 1) := by decide +kernel
theorem dX7_pushes_2 : decode cX7_pushes 2 = .ok (.iconst 0, 1) := by decide +kernel
theorem dX7_pushes_3 : decode cX7_pushes 3 = .ok (.istore_n 3, 1) := by decide +kernel
theorem dX7_pushes_4 : decode cX7_pushes 4 = .ok (.iload_n 3, 1) := by decide +kernel
theorem dX7_pushes_5 : decode cX7_pushes 5 = .ok (.aload_n 0, 1) := by decide +kernel
theorem dX7_pushes_6 : decode cX7_pushes 6 = .ok (.getfield 7, 3) := by decide +kernel
theorem dX7_pushes_9 : decode cX7_pushes 9 = .ok (.iconst 0, 1) := by decide +kernel
theorem dX7_pushes_10 : decode cX7_pushes 10 = .ok (.iaload, 1) := by decide +kernel
theorem dX7_pushes_11 : decode cX7_pushes 11 = .ok (.if_icmp .ge 27, 3) := by decide +kernel
theorem dX7_pushes_14 : decode cX7_pushes 14 = .ok (.iload_n 2, 1) := by decide +kernel
theorem dX7_pushes_15 : decode cX7_pushes 15 = .ok (.iload_n 3, 1) := by decide +kernel
theorem dX7_pushes_16 : decode cX7_pushes 16 = .ok (.iload_n 1, 1) := by decide +kernel
theorem dX7_pushes_17 : decode cX7_pushes 17 = .ok (.if_icmp .ne 7, 3) := by decide +kernel
theorem dX7_pushes_20 : decode cX7_pushes 20 = .ok (.iconst 0, 1) := by decide +kernel
theorem dX7_pushes_21 : decode cX7_pushes 21 = .ok (.goto 9, 3) := by decide +kernel
theorem dX7_pushes_24 : decode cX7_pushes 24 = .ok (.aload_n 0, 1) := by decide +kernel
theorem dX7_pushes_25 : decode cX7_pushes 25 = .ok (.iload_n 1, 1) := by decide +kernel
theorem dX7_pushes_26 : decode cX7_pushes 26 = .ok (.iload_n 3, 1) := by decide +kernel
theorem dX7_pushes_27 : decode cX7_pushes 27 = .ok (.invokevirtual 118, 3) := by decide +kernel
theorem dX7_pushes_30 : decode cX7_pushes 30 = .ok (.iadd, 1) := by decide +kernel
theorem dX7_pushes_31 : decode cX7_pushes 31 = .ok (.istore_n 2, 1) := by decide +kernel
theorem dX7_pushes_32 : decode cX7_pushes 32 = .ok (.iinc 3 1, 3) := by decide +kernel
theorem dX7_pushes_35 : decode cX7_pushes 35 = .ok (.goto (-31), 3) := by decide +kernel
theorem dX7_pushes_38 : decode cX7_pushes 38 = .ok (.iload_n 2, 1) := by decide +kernel
theorem dX7_pushes_39 : decode cX7_pushes 39 = .ok (.ireturn, 1) := by decide +kernel
theorem dX7_told_0 : decode cX7_told 0 = .ok (.aload_n 0, 1) := by decide +kernel
theorem dX7_told_1 : decode cX7_told 1 = .ok (.iload_n 1, 1) := by decide +kernel
theorem dX7_told_2 : decode cX7_told 2 = .ok (.invokevirtual 121, 3) := by decide +kernel
theorem dX7_told_5 : decode cX7_told 5 = .ok (.ifCond .ne 6, 3) := by decide +kernel
theorem dX7_told_8 : decode cX7_told 8 = .ok (.ldc 93, 2) := by decide +kernel
theorem dX7_told_10 : decode cX7_told 10 = .ok (.ireturn, 1) := by decide +kernel
theorem dX7_told_11 : decode cX7_told 11 = .ok (.iload_n 2, 1) := by decide +kernel
theorem dX7_told_12 : decode cX7_told 12 = .ok (.i2l, 1) := by decide +kernel
theorem dX7_told_13 : decode cX7_told 13 = .ok (.lconst 0, 1) := by decide +kernel
theorem dX7_told_14 : decode cX7_told 14 = .ok (.ldc2_w 124, 3) := by decide +kernel
theorem dX7_told_17 : decode cX7_told 17 = .ok (.invokestatic 76, 3) := by decide +kernel
theorem dX7_told_20 : decode cX7_told 20 = .ok (.ifCond .eq 10, 3) := by decide +kernel
theorem dX7_told_23 : decode cX7_told 23 = .ok (.aload_n 0, 1) := by decide +kernel
theorem dX7_told_24 : decode cX7_told 24 = .ok (.iload_n 1, 1) := by decide +kernel
theorem dX7_told_25 : decode cX7_told 25 = .ok (.iload_n 2, 1) := by decide +kernel
theorem dX7_told_26 : decode cX7_told 26 = .ok (.invokevirtual 80, 3) := by decide +kernel
theorem dX7_told_29 : decode cX7_told 29 = .ok (.ireturn, 1) := by decide +kernel
theorem dX7_told_30 : decode cX7_told 30 = .ok (.iload_n 2, 1) := by decide +kernel
theorem dX7_told_31 : decode cX7_told 31 = .ok (.bipush 7, 2) := by decide +kernel
theorem dX7_told_33 : decode cX7_told 33 = .ok (.if_icmp .ne 11, 3) := by decide +kernel
theorem dX7_told_36 : decode cX7_told 36 = .ok (.aload_n 0, 1) := by decide +kernel
theorem dX7_told_37 : decode cX7_told 37 = .ok (.iload_n 1, 1) := by decide +kernel
theorem dX7_told_38 : decode cX7_told 38 = .ok (.invokevirtual 126, 3) := by decide +kernel
theorem dX7_told_41 : decode cX7_told 41 = .ok (.goto 33, 3) := by decide +kernel
theorem dX7_told_44 : decode cX7_told 44 = .ok (.iload_n 2, 1) := by decide +kernel
theorem dX7_told_45 : decode cX7_told 45 = .ok (.bipush 8, 2) := by decide +kernel
theorem dX7_told_47 : decode cX7_told 47 = .ok (.if_icmp .ne 11, 3) := by decide +kernel
theorem dX7_told_50 : decode cX7_told 50 = .ok (.aload_n 0, 1) := by decide +kernel
theorem dX7_told_51 : decode cX7_told 51 = .ok (.iload_n 1, 1) := by decide +kernel
theorem dX7_told_52 : decode cX7_told 52 = .ok (.invokevirtual 129, 3) := by decide +kernel
theorem dX7_told_55 : decode cX7_told 55 = .ok (.goto 19, 3) := by decide +kernel
theorem dX7_told_58 : decode cX7_told 58 = .ok (.iload_n 2, 1) := by decide +kernel
theorem dX7_told_59 : decode cX7_told 59 = .ok (.bipush 9, 2) := by decide +kernel
theorem dX7_told_61 : decode cX7_told 61 = .ok (.if_icmp .ne 11, 3) := by decide +kernel
theorem dX7_told_64 : decode cX7_told 64 = .ok (.aload_n 0, 1) := by decide +kernel
theorem dX7_told_65 : decode cX7_told 65 = .ok (.iload_n 1, 1) := by decide +kernel
theorem dX7_told_66 : decode cX7_told 66 = .ok (.invokevirtual 132, 3) := by decide +kernel
theorem dX7_told_69 : decode cX7_told 69 = .ok (.goto 5, 3) := by decide +kernel
theorem dX7_told_72 : decode cX7_told 72 = .ok (.ldc 93, 2) := by decide +kernel
theorem dX7_told_74 : decode cX7_told 74 = .ok (.ireturn, 1) := by decide +kernel
theorem dX7_isOf_0 : decode cX7_isOf 0 = .ok (.iload_n 0, 1) := by decide +kernel
theorem dX7_isOf_1 : decode cX7_isOf 1 = .ok (.iload_n 1, 1) := by decide +kernel
theorem dX7_isOf_2 : decode cX7_isOf 2 = .ok (.if_icmp .eq 27, 3) := by decide +kernel
theorem dX7_isOf_5 : decode cX7_isOf 5 = .ok (.iload_n 1, 1) := by decide +kernel
theorem dX7_isOf_6 : decode cX7_isOf 6 = .ok (.ifCond .eq 23, 3) := by decide +kernel
theorem dX7_isOf_9 : decode cX7_isOf 9 = .ok (.iload_n 1, 1) := by decide +kernel
theorem dX7_isOf_10 : decode cX7_isOf 10 = .ok (.iconst 1, 1) := by decide +kernel
theorem dX7_isOf_11 : decode cX7_isOf 11 = .ok (.if_icmp .ne 8, 3) := by decide +kernel
theorem dX7_isOf_14 : decode cX7_isOf 14 = .ok (.iload_n 0, 1) := by decide +kernel
theorem dX7_isOf_15 : decode cX7_isOf 15 = .ok (.iconst 3, 1) := by decide +kernel
theorem dX7_isOf_16 : decode cX7_isOf 16 = .ok (.if_icmp .eq 13, 3) := by decide +kernel
theorem dX7_isOf_19 : decode cX7_isOf 19 = .ok (.iload_n 1, 1) := by decide +kernel
theorem dX7_isOf_20 : decode cX7_isOf 20 = .ok (.iconst 2, 1) := by decide +kernel
theorem dX7_isOf_21 : decode cX7_isOf 21 = .ok (.if_icmp .ne 12, 3) := by decide +kernel
theorem dX7_isOf_24 : decode cX7_isOf 24 = .ok (.iload_n 0, 1) := by decide +kernel
theorem dX7_isOf_25 : decode cX7_isOf 25 = .ok (.iconst 4, 1) := by decide +kernel
theorem dX7_isOf_26 : decode cX7_isOf 26 = .ok (.if_icmp .ne 7, 3) := by decide +kernel
theorem dX7_isOf_29 : decode cX7_isOf 29 = .ok (.iconst 1, 1) := by decide +kernel
theorem dX7_isOf_30 : decode cX7_isOf 30 = .ok (.goto 4, 3) := by decide +kernel
theorem dX7_isOf_33 : decode cX7_isOf 33 = .ok (.iconst 0, 1) := by decide +kernel
theorem dX7_isOf_34 : decode cX7_isOf 34 = .ok (.ireturn, 1) := by decide +kernel
theorem dX7_as_0 : decode cX7_as 0 = .ok (.aload_n 0, 1) := by decide +kernel
theorem dX7_as_1 : decode cX7_as 1 = .ok (.iload_n 1, 1) := by decide +kernel
theorem dX7_as_2 : decode cX7_as 2 = .ok (.invokevirtual 121, 3) := by decide +kernel
theorem dX7_as_5 : decode cX7_as 5 = .ok (.ifCond .eq 15, 3) := by decide +kernel
theorem dX7_as_8 : decode cX7_as 8 = .ok (.iload_n 2, 1) := by decide +kernel
theorem dX7_as_9 : decode cX7_as 9 = .ok (.i2l, 1) := by decide +kernel
theorem dX7_as_10 : decode cX7_as 10 = .ok (.lconst 0, 1) := by decide +kernel
theorem dX7_as_11 : decode cX7_as 11 = .ok (.ldc2_w 85, 3) := by decide +kernel
theorem dX7_as_14 : decode cX7_as 14 = .ok (.invokestatic 76, 3) := by decide +kernel
theorem dX7_as_17 : decode cX7_as 17 = .ok (.ifCond .ne 6, 3) := by decide +kernel
theorem dX7_as_20 : decode cX7_as 20 = .ok (.ldc 93, 2) := by decide +kernel
theorem dX7_as_22 : decode cX7_as 22 = .ok (.ireturn, 1) := by decide +kernel
theorem dX7_as_23 : decode cX7_as 23 = .ok (.aload_n 0, 1) := by decide +kernel
theorem dX7_as_24 : decode cX7_as 24 = .ok (.iload_n 1, 1) := by decide +kernel
theorem dX7_as_25 : decode cX7_as 25 = .ok (.iconst 0, 1) := by decide +kernel
theorem dX7_as_26 : decode cX7_as 26 = .ok (.invokevirtual 80, 3) := by decide +kernel
theorem dX7_as_29 : decode cX7_as 29 = .ok (.iload_n 2, 1) := by decide +kernel
theorem dX7_as_30 : decode cX7_as 30 = .ok (.invokestatic 135, 3) := by decide +kernel
theorem dX7_as_33 : decode cX7_as 33 = .ok (.ifCond .eq 12, 3) := by decide +kernel
theorem dX7_as_36 : decode cX7_as 36 = .ok (.aload_n 0, 1) := by decide +kernel
theorem dX7_as_37 : decode cX7_as 37 = .ok (.iload_n 1, 1) := by decide +kernel
theorem dX7_as_38 : decode cX7_as 38 = .ok (.iconst 3, 1) := by decide +kernel
theorem dX7_as_39 : decode cX7_as 39 = .ok (.invokevirtual 80, 3) := by decide +kernel
theorem dX7_as_42 : decode cX7_as 42 = .ok (.goto 5, 3) := by decide +kernel
theorem dX7_as_45 : decode cX7_as 45 = .ok (.ldc 139, 2) := by decide +kernel
theorem dX7_as_47 : decode cX7_as 47 = .ok (.ireturn, 1) := by decide +kernel
theorem dX7_turns_0 : decode cX7_turns 0 = .ok (.aload_n 0, 1) := by decide +kernel
theorem dX7_turns_1 : decode cX7_turns 1 = .ok (.iload_n 1, 1) := by decide +kernel
theorem dX7_turns_2 : decode cX7_turns 2 = .ok (.invokevirtual 121, 3) := by decide +kernel
theorem dX7_turns_5 : decode cX7_turns 5 = .ok (.ifCond .eq 28, 3) := by decide +kernel
theorem dX7_turns_8 : decode cX7_turns 8 = .ok (.iload_n 2, 1) := by decide +kernel
theorem dX7_turns_9 : decode cX7_turns 9 = .ok (.i2l, 1) := by decide +kernel
theorem dX7_turns_10 : decode cX7_turns 10 = .ok (.lconst 0, 1) := by decide +kernel
theorem dX7_turns_11 : decode cX7_turns 11 = .ok (.ldc2_w 85, 3) := by decide +kernel
theorem dX7_turns_14 : decode cX7_turns 14 = .ok (.invokestatic 76, 3) := by decide +kernel
theorem dX7_turns_17 : decode cX7_turns 17 = .ok (.ifCond .eq 16, 3) := by decide +kernel
theorem dX7_turns_20 : decode cX7_turns 20 = .ok (.aload_n 0, 1) := by decide +kernel
theorem dX7_turns_21 : decode cX7_turns 21 = .ok (.aload_n 0, 1) := by decide +kernel
theorem dX7_turns_22 : decode cX7_turns 22 = .ok (.iload_n 1, 1) := by decide +kernel
theorem dX7_turns_23 : decode cX7_turns 23 = .ok (.invokevirtual 72, 3) := by decide +kernel
theorem dX7_turns_26 : decode cX7_turns 26 = .ok (.iload_n 2, 1) := by decide +kernel
theorem dX7_turns_27 : decode cX7_turns 27 = .ok (.invokevirtual 140, 3) := by decide +kernel
theorem dX7_turns_30 : decode cX7_turns 30 = .ok (.goto 5, 3) := by decide +kernel
theorem dX7_turns_33 : decode cX7_turns 33 = .ok (.ldc 93, 2) := by decide +kernel
theorem dX7_turns_35 : decode cX7_turns 35 = .ok (.ireturn, 1) := by decide +kernel
theorem dX7_set_0 : decode cX7_set 0 = .ok (.iload_n 2, 1) := by decide +kernel
theorem dX7_set_1 : decode cX7_set 1 = .ok (.ifCond .ne 15, 3) := by decide +kernel
theorem dX7_set_4 : decode cX7_set 4 = .ok (.iload_n 3, 1) := by decide +kernel
theorem dX7_set_5 : decode cX7_set 5 = .ok (.i2l, 1) := by decide +kernel
theorem dX7_set_6 : decode cX7_set 6 = .ok (.lconst 1, 1) := by decide +kernel
theorem dX7_set_7 : decode cX7_set 7 = .ok (.ldc2_w 91, 3) := by decide +kernel
theorem dX7_set_10 : decode cX7_set 10 = .ok (.invokestatic 76, 3) := by decide +kernel
theorem dX7_set_13 : decode cX7_set 13 = .ok (.goto 42, 3) := by decide +kernel
theorem dX7_set_16 : decode cX7_set 16 = .ok (.iload_n 2, 1) := by decide +kernel
theorem dX7_set_17 : decode cX7_set 17 = .ok (.iconst 1, 1) := by decide +kernel
theorem dX7_set_18 : decode cX7_set 18 = .ok (.if_icmp .ne 15, 3) := by decide +kernel
theorem dX7_set_21 : decode cX7_set 21 = .ok (.iload_n 3, 1) := by decide +kernel
theorem dX7_set_22 : decode cX7_set 22 = .ok (.i2l, 1) := by decide +kernel
theorem dX7_set_23 : decode cX7_set 23 = .ok (.lconst 0, 1) := by decide +kernel
theorem dX7_set_24 : decode cX7_set 24 = .ok (.ldc2_w 143, 3) := by decide +kernel
theorem dX7_set_27 : decode cX7_set 27 = .ok (.invokestatic 76, 3) := by decide +kernel
theorem dX7_set_30 : decode cX7_set 30 = .ok (.goto 25, 3) := by decide +kernel
theorem dX7_set_33 : decode cX7_set 33 = .ok (.iload_n 2, 1) := by decide +kernel
theorem dX7_set_34 : decode cX7_set 34 = .ok (.iconst 2, 1) := by decide +kernel
theorem dX7_set_35 : decode cX7_set 35 = .ok (.if_icmp .ne 19, 3) := by decide +kernel
theorem dX7_set_38 : decode cX7_set 38 = .ok (.iload_n 3, 1) := by decide +kernel
theorem dX7_set_39 : decode cX7_set 39 = .ok (.i2l, 1) := by decide +kernel
theorem dX7_set_40 : decode cX7_set 40 = .ok (.lconst 0, 1) := by decide +kernel
theorem dX7_set_41 : decode cX7_set 41 = .ok (.ldc2_w 145, 3) := by decide +kernel
theorem dX7_set_44 : decode cX7_set 44 = .ok (.invokestatic 76, 3) := by decide +kernel
theorem dX7_set_47 : decode cX7_set 47 = .ok (.ifCond .eq 7, 3) := by decide +kernel
theorem dX7_set_50 : decode cX7_set 50 = .ok (.iconst 1, 1) := by decide +kernel
theorem dX7_set_51 : decode cX7_set 51 = .ok (.goto 4, 3) := by decide +kernel
theorem dX7_set_54 : decode cX7_set 54 = .ok (.iconst 0, 1) := by decide +kernel
theorem dX7_set_55 : decode cX7_set 55 = .ok (.istore 4, 2) := by decide +kernel
theorem dX7_set_57 : decode cX7_set 57 = .ok (.aload_n 0, 1) := by decide +kernel
theorem dX7_set_58 : decode cX7_set 58 = .ok (.iload_n 1, 1) := by decide +kernel
theorem dX7_set_59 : decode cX7_set 59 = .ok (.invokevirtual 121, 3) := by decide +kernel
theorem dX7_set_62 : decode cX7_set 62 = .ok (.ifCond .eq 25, 3) := by decide +kernel
theorem dX7_set_65 : decode cX7_set 65 = .ok (.iload 4, 2) := by decide +kernel
theorem dX7_set_67 : decode cX7_set 67 = .ok (.ifCond .eq 20, 3) := by decide +kernel
theorem dX7_set_70 : decode cX7_set 70 = .ok (.aload_n 0, 1) := by decide +kernel
theorem dX7_set_71 : decode cX7_set 71 = .ok (.aload_n 0, 1) := by decide +kernel
theorem dX7_set_72 : decode cX7_set 72 = .ok (.iload_n 1, 1) := by decide +kernel
theorem dX7_set_73 : decode cX7_set 73 = .ok (.invokevirtual 72, 3) := by decide +kernel
theorem dX7_set_76 : decode cX7_set 76 = .ok (.iconst 3, 1) := by decide +kernel
theorem dX7_set_77 : decode cX7_set 77 = .ok (.iadd, 1) := by decide +kernel
theorem dX7_set_78 : decode cX7_set 78 = .ok (.iload_n 2, 1) := by decide +kernel
theorem dX7_set_79 : decode cX7_set 79 = .ok (.iadd, 1) := by decide +kernel
theorem dX7_set_80 : decode cX7_set 80 = .ok (.iload_n 3, 1) := by decide +kernel
theorem dX7_set_81 : decode cX7_set 81 = .ok (.invokevirtual 140, 3) := by decide +kernel
theorem dX7_set_84 : decode cX7_set 84 = .ok (.goto 5, 3) := by decide +kernel
theorem dX7_set_87 : decode cX7_set 87 = .ok (.ldc 93, 2) := by decide +kernel
theorem dX7_set_89 : decode cX7_set 89 = .ok (.ireturn, 1) := by decide +kernel
theorem dX7_move_0 : decode cX7_move 0 = .ok (.aload_n 0, 1) := by decide +kernel
theorem dX7_move_1 : decode cX7_move 1 = .ok (.iload_n 1, 1) := by decide +kernel
theorem dX7_move_2 : decode cX7_move 2 = .ok (.invokevirtual 121, 3) := by decide +kernel
theorem dX7_move_5 : decode cX7_move 5 = .ok (.ifCond .eq 10, 3) := by decide +kernel
theorem dX7_move_8 : decode cX7_move 8 = .ok (.iload_n 2, 1) := by decide +kernel
theorem dX7_move_9 : decode cX7_move 9 = .ok (.invokestatic 87, 3) := by decide +kernel
theorem dX7_move_12 : decode cX7_move 12 = .ok (.ifCond .ne 6, 3) := by decide +kernel
theorem dX7_move_15 : decode cX7_move 15 = .ok (.ldc 93, 2) := by decide +kernel
theorem dX7_move_17 : decode cX7_move 17 = .ok (.ireturn, 1) := by decide +kernel
theorem dX7_move_18 : decode cX7_move 18 = .ok (.aload_n 0, 1) := by decide +kernel
theorem dX7_move_19 : decode cX7_move 19 = .ok (.aload_n 0, 1) := by decide +kernel
theorem dX7_move_20 : decode cX7_move 20 = .ok (.iload_n 1, 1) := by decide +kernel
theorem dX7_move_21 : decode cX7_move 21 = .ok (.invokevirtual 72, 3) := by decide +kernel
theorem dX7_move_24 : decode cX7_move 24 = .ok (.iconst 1, 1) := by decide +kernel
theorem dX7_move_25 : decode cX7_move 25 = .ok (.iadd, 1) := by decide +kernel
theorem dX7_move_26 : decode cX7_move 26 = .ok (.iload_n 2, 1) := by decide +kernel
theorem dX7_move_27 : decode cX7_move 27 = .ok (.bipush 100, 2) := by decide +kernel
theorem dX7_move_29 : decode cX7_move 29 = .ok (.idiv, 1) := by decide +kernel
theorem dX7_move_30 : decode cX7_move 30 = .ok (.invokevirtual 140, 3) := by decide +kernel
theorem dX7_move_33 : decode cX7_move 33 = .ok (.istore_n 3, 1) := by decide +kernel
theorem dX7_move_34 : decode cX7_move 34 = .ok (.aload_n 0, 1) := by decide +kernel
theorem dX7_move_35 : decode cX7_move 35 = .ok (.aload_n 0, 1) := by decide +kernel
theorem dX7_move_36 : decode cX7_move 36 = .ok (.iload_n 1, 1) := by decide +kernel
theorem dX7_move_37 : decode cX7_move 37 = .ok (.invokevirtual 72, 3) := by decide +kernel
theorem dX7_move_40 : decode cX7_move 40 = .ok (.iconst 2, 1) := by decide +kernel
theorem dX7_move_41 : decode cX7_move 41 = .ok (.iadd, 1) := by decide +kernel
theorem dX7_move_42 : decode cX7_move 42 = .ok (.iload_n 2, 1) := by decide +kernel
theorem dX7_move_43 : decode cX7_move 43 = .ok (.bipush 100, 2) := by decide +kernel
theorem dX7_move_45 : decode cX7_move 45 = .ok (.irem, 1) := by decide +kernel
theorem dX7_move_46 : decode cX7_move 46 = .ok (.invokevirtual 140, 3) := by decide +kernel
theorem dX7_move_49 : decode cX7_move 49 = .ok (.istore 4, 2) := by decide +kernel
theorem dX7_move_51 : decode cX7_move 51 = .ok (.iload_n 3, 1) := by decide +kernel
theorem dX7_move_52 : decode cX7_move 52 = .ok (.iload_n 2, 1) := by decide +kernel
theorem dX7_move_53 : decode cX7_move 53 = .ok (.bipush 100, 2) := by decide +kernel
theorem dX7_move_55 : decode cX7_move 55 = .ok (.idiv, 1) := by decide +kernel
theorem dX7_move_56 : decode cX7_move 56 = .ok (.invokestatic 112, 3) := by decide +kernel
theorem dX7_move_59 : decode cX7_move 59 = .ok (.iload 4, 2) := by decide +kernel
theorem dX7_move_61 : decode cX7_move 61 = .ok (.iload_n 2, 1) := by decide +kernel
theorem dX7_move_62 : decode cX7_move 62 = .ok (.bipush 100, 2) := by decide +kernel
theorem dX7_move_64 : decode cX7_move 64 = .ok (.irem, 1) := by decide +kernel
theorem dX7_move_65 : decode cX7_move 65 = .ok (.invokestatic 112, 3) := by decide +kernel
theorem dX7_move_68 : decode cX7_move 68 = .ok (.iadd, 1) := by decide +kernel
theorem dX7_move_69 : decode cX7_move 69 = .ok (.ireturn, 1) := by decide +kernel
theorem dX7_glass_0 : decode cX7_glass 0 = .ok (.aload_n 0, 1) := by decide +kernel
theorem dX7_glass_1 : decode cX7_glass 1 = .ok (.iload_n 1, 1) := by decide +kernel
theorem dX7_glass_2 : decode cX7_glass 2 = .ok (.invokevirtual 121, 3) := by decide +kernel
theorem dX7_glass_5 : decode cX7_glass 5 = .ok (.ifCond .eq 26, 3) := by decide +kernel
theorem dX7_glass_8 : decode cX7_glass 8 = .ok (.aload_n 0, 1) := by decide +kernel
theorem dX7_glass_9 : decode cX7_glass 9 = .ok (.iload_n 2, 1) := by decide +kernel
theorem dX7_glass_10 : decode cX7_glass 10 = .ok (.invokevirtual 121, 3) := by decide +kernel
theorem dX7_glass_13 : decode cX7_glass 13 = .ok (.ifCond .eq 18, 3) := by decide +kernel
theorem dX7_glass_16 : decode cX7_glass 16 = .ok (.iload_n 1, 1) := by decide +kernel
theorem dX7_glass_17 : decode cX7_glass 17 = .ok (.iload_n 2, 1) := by decide +kernel
theorem dX7_glass_18 : decode cX7_glass 18 = .ok (.if_icmp .eq 13, 3) := by decide +kernel
theorem dX7_glass_21 : decode cX7_glass 21 = .ok (.iload_n 3, 1) := by decide +kernel
theorem dX7_glass_22 : decode cX7_glass 22 = .ok (.i2l, 1) := by decide +kernel
theorem dX7_glass_23 : decode cX7_glass 23 = .ok (.lconst 0, 1) := by decide +kernel
theorem dX7_glass_24 : decode cX7_glass 24 = .ok (.lconst 1, 1) := by decide +kernel
theorem dX7_glass_25 : decode cX7_glass 25 = .ok (.invokestatic 76, 3) := by decide +kernel
theorem dX7_glass_28 : decode cX7_glass 28 = .ok (.ifCond .ne 6, 3) := by decide +kernel
theorem dX7_glass_31 : decode cX7_glass 31 = .ok (.ldc 93, 2) := by decide +kernel
theorem dX7_glass_33 : decode cX7_glass 33 = .ok (.ireturn, 1) := by decide +kernel
theorem dX7_glass_34 : decode cX7_glass 34 = .ok (.aload_n 0, 1) := by decide +kernel
theorem dX7_glass_35 : decode cX7_glass 35 = .ok (.getfield 7, 3) := by decide +kernel
theorem dX7_glass_38 : decode cX7_glass 38 = .ok (.bipush 6, 2) := by decide +kernel
theorem dX7_glass_40 : decode cX7_glass 40 = .ok (.iload_n 1, 1) := by decide +kernel
theorem dX7_glass_41 : decode cX7_glass 41 = .ok (.iadd, 1) := by decide +kernel
theorem dX7_glass_42 : decode cX7_glass 42 = .ok (.iaload, 1) := by decide +kernel
theorem dX7_glass_43 : decode cX7_glass 43 = .ok (.iload_n 2, 1) := by decide +kernel
theorem dX7_glass_44 : decode cX7_glass 44 = .ok (.ishr, 1) := by decide +kernel
theorem dX7_glass_45 : decode cX7_glass 45 = .ok (.iconst 1, 1) := by decide +kernel
theorem dX7_glass_46 : decode cX7_glass 46 = .ok (.iand, 1) := by decide +kernel
theorem dX7_glass_47 : decode cX7_glass 47 = .ok (.istore 4, 2) := by decide +kernel
theorem dX7_glass_49 : decode cX7_glass 49 = .ok (.iload 4, 2) := by decide +kernel
theorem dX7_glass_51 : decode cX7_glass 51 = .ok (.iload_n 3, 1) := by decide +kernel
theorem dX7_glass_52 : decode cX7_glass 52 = .ok (.if_icmp .eq 33, 3) := by decide +kernel
theorem dX7_glass_55 : decode cX7_glass 55 = .ok (.aload_n 0, 1) := by decide +kernel
theorem dX7_glass_56 : decode cX7_glass 56 = .ok (.getfield 7, 3) := by decide +kernel
theorem dX7_glass_59 : decode cX7_glass 59 = .ok (.bipush 6, 2) := by decide +kernel
theorem dX7_glass_61 : decode cX7_glass 61 = .ok (.iload_n 1, 1) := by decide +kernel
theorem dX7_glass_62 : decode cX7_glass 62 = .ok (.iadd, 1) := by decide +kernel
theorem dX7_glass_63 : decode cX7_glass 63 = .ok (.dup2, 1) := by decide +kernel
theorem dX7_glass_64 : decode cX7_glass 64 = .ok (.iaload, 1) := by decide +kernel
theorem dX7_glass_65 : decode cX7_glass 65 = .ok (.iconst 1, 1) := by decide +kernel
theorem dX7_glass_66 : decode cX7_glass 66 = .ok (.iload_n 2, 1) := by decide +kernel
theorem dX7_glass_67 : decode cX7_glass 67 = .ok (.ishl, 1) := by decide +kernel
theorem dX7_glass_68 : decode cX7_glass 68 = .ok (.ixor, 1) := by decide +kernel
theorem dX7_glass_69 : decode cX7_glass 69 = .ok (.iastore, 1) := by decide +kernel
theorem dX7_glass_70 : decode cX7_glass 70 = .ok (.aload_n 0, 1) := by decide +kernel
theorem dX7_glass_71 : decode cX7_glass 71 = .ok (.getfield 7, 3) := by decide +kernel
theorem dX7_glass_74 : decode cX7_glass 74 = .ok (.bipush 6, 2) := by decide +kernel
theorem dX7_glass_76 : decode cX7_glass 76 = .ok (.iload_n 2, 1) := by decide +kernel
theorem dX7_glass_77 : decode cX7_glass 77 = .ok (.iadd, 1) := by decide +kernel
theorem dX7_glass_78 : decode cX7_glass 78 = .ok (.dup2, 1) := by decide +kernel
theorem dX7_glass_79 : decode cX7_glass 79 = .ok (.iaload, 1) := by decide +kernel
theorem dX7_glass_80 : decode cX7_glass 80 = .ok (.iconst 1, 1) := by decide +kernel
theorem dX7_glass_81 : decode cX7_glass 81 = .ok (.iload_n 1, 1) := by decide +kernel
theorem dX7_glass_82 : decode cX7_glass 82 = .ok (.ishl, 1) := by decide +kernel
theorem dX7_glass_83 : decode cX7_glass 83 = .ok (.ixor, 1) := by decide +kernel
theorem dX7_glass_84 : decode cX7_glass 84 = .ok (.iastore, 1) := by decide +kernel
theorem dX7_glass_85 : decode cX7_glass 85 = .ok (.iload 4, 2) := by decide +kernel
theorem dX7_glass_87 : decode cX7_glass 87 = .ok (.ireturn, 1) := by decide +kernel
theorem dX7_reach_0 : decode cX7_reach 0 = .ok (.iload_n 1, 1) := by decide +kernel
theorem dX7_reach_1 : decode cX7_reach 1 = .ok (.i2l, 1) := by decide +kernel
theorem dX7_reach_2 : decode cX7_reach 2 = .ok (.lconst 0, 1) := by decide +kernel
theorem dX7_reach_3 : decode cX7_reach 3 = .ok (.lconst 1, 1) := by decide +kernel
theorem dX7_reach_4 : decode cX7_reach 4 = .ok (.invokestatic 76, 3) := by decide +kernel
theorem dX7_reach_7 : decode cX7_reach 7 = .ok (.ifCond .eq 26, 3) := by decide +kernel
theorem dX7_reach_10 : decode cX7_reach 10 = .ok (.iload_n 2, 1) := by decide +kernel
theorem dX7_reach_11 : decode cX7_reach 11 = .ok (.i2l, 1) := by decide +kernel
theorem dX7_reach_12 : decode cX7_reach 12 = .ok (.lconst 0, 1) := by decide +kernel
theorem dX7_reach_13 : decode cX7_reach 13 = .ok (.ldc2_w 147, 3) := by decide +kernel
theorem dX7_reach_16 : decode cX7_reach 16 = .ok (.invokestatic 76, 3) := by decide +kernel
theorem dX7_reach_19 : decode cX7_reach 19 = .ok (.ifCond .eq 14, 3) := by decide +kernel
theorem dX7_reach_22 : decode cX7_reach 22 = .ok (.aload_n 0, 1) := by decide +kernel
theorem dX7_reach_23 : decode cX7_reach 23 = .ok (.iconst 3, 1) := by decide +kernel
theorem dX7_reach_24 : decode cX7_reach 24 = .ok (.iload_n 1, 1) := by decide +kernel
theorem dX7_reach_25 : decode cX7_reach 25 = .ok (.iadd, 1) := by decide +kernel
theorem dX7_reach_26 : decode cX7_reach 26 = .ok (.iload_n 2, 1) := by decide +kernel
theorem dX7_reach_27 : decode cX7_reach 27 = .ok (.invokevirtual 140, 3) := by decide +kernel
theorem dX7_reach_30 : decode cX7_reach 30 = .ok (.goto 5, 3) := by decide +kernel
theorem dX7_reach_33 : decode cX7_reach 33 = .ok (.ldc 93, 2) := by decide +kernel
theorem dX7_reach_35 : decode cX7_reach 35 = .ok (.ireturn, 1) := by decide +kernel
theorem dX7_push_0 : decode cX7_push 0 = .ok (.aload_n 0, 1) := by decide +kernel
theorem dX7_push_1 : decode cX7_push 1 = .ok (.iload_n 1, 1) := by decide +kernel
theorem dX7_push_2 : decode cX7_push 2 = .ok (.invokevirtual 121, 3) := by decide +kernel
theorem dX7_push_5 : decode cX7_push 5 = .ok (.ifCond .eq 25, 3) := by decide +kernel
theorem dX7_push_8 : decode cX7_push 8 = .ok (.aload_n 0, 1) := by decide +kernel
theorem dX7_push_9 : decode cX7_push 9 = .ok (.iload_n 2, 1) := by decide +kernel
theorem dX7_push_10 : decode cX7_push 10 = .ok (.invokevirtual 121, 3) := by decide +kernel
theorem dX7_push_13 : decode cX7_push 13 = .ok (.ifCond .eq 17, 3) := by decide +kernel
theorem dX7_push_16 : decode cX7_push 16 = .ok (.iload_n 1, 1) := by decide +kernel
theorem dX7_push_17 : decode cX7_push 17 = .ok (.iload_n 2, 1) := by decide +kernel
theorem dX7_push_18 : decode cX7_push 18 = .ok (.if_icmp .eq 12, 3) := by decide +kernel
theorem dX7_push_21 : decode cX7_push 21 = .ok (.aload_n 0, 1) := by decide +kernel
theorem dX7_push_22 : decode cX7_push 22 = .ok (.iload_n 1, 1) := by decide +kernel
theorem dX7_push_23 : decode cX7_push 23 = .ok (.iload_n 2, 1) := by decide +kernel
theorem dX7_push_24 : decode cX7_push 24 = .ok (.invokevirtual 118, 3) := by decide +kernel
theorem dX7_push_27 : decode cX7_push 27 = .ok (.goto 5, 3) := by decide +kernel
theorem dX7_push_30 : decode cX7_push 30 = .ok (.ldc 93, 2) := by decide +kernel
theorem dX7_push_32 : decode cX7_push 32 = .ok (.ireturn, 1) := by decide +kernel
theorem dX7_deal_0 : decode cX7_deal 0 = .ok (.iload_n 1, 1) := by decide +kernel
theorem dX7_deal_1 : decode cX7_deal 1 = .ok (.i2l, 1) := by decide +kernel
theorem dX7_deal_2 : decode cX7_deal 2 = .ok (.lconst 1, 1) := by decide +kernel
theorem dX7_deal_3 : decode cX7_deal 3 = .ok (.ldc2_w 149, 3) := by decide +kernel
theorem dX7_deal_6 : decode cX7_deal 6 = .ok (.invokestatic 76, 3) := by decide +kernel
theorem dX7_deal_9 : decode cX7_deal 9 = .ok (.ifCond .ne 6, 3) := by decide +kernel
theorem dX7_deal_12 : decode cX7_deal 12 = .ok (.ldc 93, 2) := by decide +kernel
theorem dX7_deal_14 : decode cX7_deal 14 = .ok (.ireturn, 1) := by decide +kernel
theorem dX7_deal_15 : decode cX7_deal 15 = .ok (.iconst 0, 1) := by decide +kernel
theorem dX7_deal_16 : decode cX7_deal 16 = .ok (.istore_n 2, 1) := by decide +kernel
theorem dX7_deal_17 : decode cX7_deal 17 = .ok (.iload_n 2, 1) := by decide +kernel
theorem dX7_deal_18 : decode cX7_deal 18 = .ok (.iload_n 1, 1) := by decide +kernel
theorem dX7_deal_19 : decode cX7_deal 19 = .ok (.if_icmp .ge 74, 3) := by decide +kernel
theorem dX7_deal_22 : decode cX7_deal 22 = .ok (.aload_n 0, 1) := by decide +kernel
theorem dX7_deal_23 : decode cX7_deal 23 = .ok (.getfield 7, 3) := by decide +kernel
theorem dX7_deal_26 : decode cX7_deal 26 = .ok (.iconst 0, 1) := by decide +kernel
theorem dX7_deal_27 : decode cX7_deal 27 = .ok (.iaload, 1) := by decide +kernel
theorem dX7_deal_28 : decode cX7_deal 28 = .ok (.bipush 8, 2) := by decide +kernel
theorem dX7_deal_30 : decode cX7_deal 30 = .ok (.if_icmp .ge 63, 3) := by decide +kernel
theorem dX7_deal_33 : decode cX7_deal 33 = .ok (.aload_n 0, 1) := by decide +kernel
theorem dX7_deal_34 : decode cX7_deal 34 = .ok (.invokevirtual 151, 3) := by decide +kernel
theorem dX7_deal_37 : decode cX7_deal 37 = .ok (.iconst 5, 1) := by decide +kernel
theorem dX7_deal_38 : decode cX7_deal 38 = .ok (.irem, 1) := by decide +kernel
theorem dX7_deal_39 : decode cX7_deal 39 = .ok (.istore_n 3, 1) := by decide +kernel
theorem dX7_deal_40 : decode cX7_deal 40 = .ok (.aload_n 0, 1) := by decide +kernel
theorem dX7_deal_41 : decode cX7_deal 41 = .ok (.invokevirtual 151, 3) := by decide +kernel
theorem dX7_deal_44 : decode cX7_deal 44 = .ok (.bipush 30, 2) := by decide +kernel
theorem dX7_deal_46 : decode cX7_deal 46 = .ok (.irem, 1) := by decide +kernel
theorem dX7_deal_47 : decode cX7_deal 47 = .ok (.istore 4, 2) := by decide +kernel
theorem dX7_deal_49 : decode cX7_deal 49 = .ok (.aload_n 0, 1) := by decide +kernel
theorem dX7_deal_50 : decode cX7_deal 50 = .ok (.invokevirtual 151, 3) := by decide +kernel
theorem dX7_deal_53 : decode cX7_deal 53 = .ok (.bipush 30, 2) := by decide +kernel
theorem dX7_deal_55 : decode cX7_deal 55 = .ok (.irem, 1) := by decide +kernel
theorem dX7_deal_56 : decode cX7_deal 56 = .ok (.istore 5, 2) := by decide +kernel
theorem dX7_deal_58 : decode cX7_deal 58 = .ok (.iconst 1, 1) := by decide +kernel
theorem dX7_deal_59 : decode cX7_deal 59 = .ok (.aload_n 0, 1) := by decide +kernel
theorem dX7_deal_60 : decode cX7_deal 60 = .ok (.invokevirtual 151, 3) := by decide +kernel
theorem dX7_deal_63 : decode cX7_deal 63 = .ok (.bipush 9, 2) := by decide +kernel
theorem dX7_deal_65 : decode cX7_deal 65 = .ok (.irem, 1) := by decide +kernel
theorem dX7_deal_66 : decode cX7_deal 66 = .ok (.iadd, 1) := by decide +kernel
theorem dX7_deal_67 : decode cX7_deal 67 = .ok (.istore 6, 2) := by decide +kernel
theorem dX7_deal_69 : decode cX7_deal 69 = .ok (.aload_n 0, 1) := by decide +kernel
theorem dX7_deal_70 : decode cX7_deal 70 = .ok (.iload_n 3, 1) := by decide +kernel
theorem dX7_deal_71 : decode cX7_deal 71 = .ok (.iload 4, 2) := by decide +kernel
theorem dX7_deal_73 : decode cX7_deal 73 = .ok (.iload 5, 2) := by decide +kernel
theorem dX7_deal_75 : decode cX7_deal 75 = .ok (.iload 6, 2) := by decide +kernel
theorem dX7_deal_77 : decode cX7_deal 77 = .ok (.aload_n 0, 1) := by decide +kernel
theorem dX7_deal_78 : decode cX7_deal 78 = .ok (.invokevirtual 151, 3) := by decide +kernel
theorem dX7_deal_81 : decode cX7_deal 81 = .ok (.bipush 120, 2) := by decide +kernel
theorem dX7_deal_83 : decode cX7_deal 83 = .ok (.irem, 1) := by decide +kernel
theorem dX7_deal_84 : decode cX7_deal 84 = .ok (.invokevirtual 95, 3) := by decide +kernel
theorem dX7_deal_87 : decode cX7_deal 87 = .ok (.iinc 2 1, 3) := by decide +kernel
theorem dX7_deal_90 : decode cX7_deal 90 = .ok (.goto (-73), 3) := by decide +kernel
theorem dX7_deal_93 : decode cX7_deal 93 = .ok (.iload_n 2, 1) := by decide +kernel
theorem dX7_deal_94 : decode cX7_deal 94 = .ok (.ireturn, 1) := by decide +kernel
theorem dX7_seed_0 : decode cX7_seed 0 = .ok (.aload_n 0, 1) := by decide +kernel
theorem dX7_seed_1 : decode cX7_seed 1 = .ok (.iconst 5, 1) := by decide +kernel
theorem dX7_seed_2 : decode cX7_seed 2 = .ok (.iload_n 1, 1) := by decide +kernel
theorem dX7_seed_3 : decode cX7_seed 3 = .ok (.invokevirtual 140, 3) := by decide +kernel
theorem dX7_seed_6 : decode cX7_seed 6 = .ok (.ireturn, 1) := by decide +kernel
theorem dX7_wind_0 : decode cX7_wind 0 = .ok (.aload_n 0, 1) := by decide +kernel
theorem dX7_wind_1 : decode cX7_wind 1 = .ok (.iconst 2, 1) := by decide +kernel
theorem dX7_wind_2 : decode cX7_wind 2 = .ok (.invokevirtual 99, 3) := by decide +kernel
theorem dX7_wind_5 : decode cX7_wind 5 = .ok (.istore_n 2, 1) := by decide +kernel
theorem dX7_wind_6 : decode cX7_wind 6 = .ok (.iload_n 2, 1) := by decide +kernel
theorem dX7_wind_7 : decode cX7_wind 7 = .ok (.ifCond .ge 13, 3) := by decide +kernel
theorem dX7_wind_10 : decode cX7_wind 10 = .ok (.aload_n 0, 1) := by decide +kernel
theorem dX7_wind_11 : decode cX7_wind 11 = .ok (.invokevirtual 151, 3) := by decide +kernel
theorem dX7_wind_14 : decode cX7_wind 14 = .ok (.bipush 11, 2) := by decide +kernel
theorem dX7_wind_16 : decode cX7_wind 16 = .ok (.irem, 1) := by decide +kernel
theorem dX7_wind_17 : decode cX7_wind 17 = .ok (.iconst 5, 1) := by decide +kernel
theorem dX7_wind_18 : decode cX7_wind 18 = .ok (.isub, 1) := by decide +kernel
theorem dX7_wind_19 : decode cX7_wind 19 = .ok (.ireturn, 1) := by decide +kernel
theorem dX7_wind_20 : decode cX7_wind 20 = .ok (.aload_n 0, 1) := by decide +kernel
theorem dX7_wind_21 : decode cX7_wind 21 = .ok (.getfield 56, 3) := by decide +kernel
theorem dX7_wind_24 : decode cX7_wind 24 = .ok (.bipush 116, 2) := by decide +kernel
theorem dX7_wind_26 : decode cX7_wind 26 = .ok (.aload_n 0, 1) := by decide +kernel
theorem dX7_wind_27 : decode cX7_wind 27 = .ok (.getfield 7, 3) := by decide +kernel
theorem dX7_wind_30 : decode cX7_wind 30 = .ok (.iconst 2, 1) := by decide +kernel
theorem dX7_wind_31 : decode cX7_wind 31 = .ok (.iaload, 1) := by decide +kernel
theorem dX7_wind_32 : decode cX7_wind 32 = .ok (.iastore, 1) := by decide +kernel
theorem dX7_wind_33 : decode cX7_wind 33 = .ok (.aload_n 0, 1) := by decide +kernel
theorem dX7_wind_34 : decode cX7_wind 34 = .ok (.getfield 56, 3) := by decide +kernel
theorem dX7_wind_37 : decode cX7_wind 37 = .ok (.bipush 110, 2) := by decide +kernel
theorem dX7_wind_39 : decode cX7_wind 39 = .ok (.iload_n 1, 1) := by decide +kernel
theorem dX7_wind_40 : decode cX7_wind 40 = .ok (.iastore, 1) := by decide +kernel
theorem dX7_wind_41 : decode cX7_wind 41 = .ok (.aload_n 0, 1) := by decide +kernel
theorem dX7_wind_42 : decode cX7_wind 42 = .ok (.iload_n 2, 1) := by decide +kernel
theorem dX7_wind_43 : decode cX7_wind 43 = .ok (.invokevirtual 102, 3) := by decide +kernel
theorem dX7_wind_46 : decode cX7_wind 46 = .ok (.bipush (-30), 2) := by decide +kernel
theorem dX7_wind_48 : decode cX7_wind 48 = .ok (.bipush 30, 2) := by decide +kernel
theorem dX7_wind_50 : decode cX7_wind 50 = .ok (.invokestatic 105, 3) := by decide +kernel
theorem dX7_wind_53 : decode cX7_wind 53 = .ok (.ireturn, 1) := by decide +kernel
theorem dX7_turned_0 : decode cX7_turned 0 = .ok (.aload_n 0, 1) := by decide +kernel
theorem dX7_turned_1 : decode cX7_turned 1 = .ok (.iload_n 1, 1) := by decide +kernel
theorem dX7_turned_2 : decode cX7_turned 2 = .ok (.invokevirtual 129, 3) := by decide +kernel
theorem dX7_turned_5 : decode cX7_turned 5 = .ok (.istore_n 2, 1) := by decide +kernel
theorem dX7_turned_6 : decode cX7_turned 6 = .ok (.aload_n 0, 1) := by decide +kernel
theorem dX7_turned_7 : decode cX7_turned 7 = .ok (.iload_n 1, 1) := by decide +kernel
theorem dX7_turned_8 : decode cX7_turned 8 = .ok (.iconst 0, 1) := by decide +kernel
theorem dX7_turned_9 : decode cX7_turned 9 = .ok (.invokevirtual 80, 3) := by decide +kernel
theorem dX7_turned_12 : decode cX7_turned 12 = .ok (.tableswitch 78 1 5 #[36, 40, 43, 49, 70], 36) := by decide +kernel
theorem dX7_turned_48 : decode cX7_turned 48 = .ok (.iconst 2, 1) := by decide +kernel
theorem dX7_turned_49 : decode cX7_turned 49 = .ok (.iload_n 2, 1) := by decide +kernel
theorem dX7_turned_50 : decode cX7_turned 50 = .ok (.imul, 1) := by decide +kernel
theorem dX7_turned_51 : decode cX7_turned 51 = .ok (.ireturn, 1) := by decide +kernel
theorem dX7_turned_52 : decode cX7_turned 52 = .ok (.iload_n 2, 1) := by decide +kernel
theorem dX7_turned_53 : decode cX7_turned 53 = .ok (.ineg, 1) := by decide +kernel
theorem dX7_turned_54 : decode cX7_turned 54 = .ok (.ireturn, 1) := by decide +kernel
theorem dX7_turned_55 : decode cX7_turned 55 = .ok (.iconst 2, 1) := by decide +kernel
theorem dX7_turned_56 : decode cX7_turned 56 = .ok (.iload_n 2, 1) := by decide +kernel
theorem dX7_turned_57 : decode cX7_turned 57 = .ok (.imul, 1) := by decide +kernel
theorem dX7_turned_58 : decode cX7_turned 58 = .ok (.iconst 3, 1) := by decide +kernel
theorem dX7_turned_59 : decode cX7_turned 59 = .ok (.iadd, 1) := by decide +kernel
theorem dX7_turned_60 : decode cX7_turned 60 = .ok (.ireturn, 1) := by decide +kernel
theorem dX7_turned_61 : decode cX7_turned 61 = .ok (.iload_n 2, 1) := by decide +kernel
theorem dX7_turned_62 : decode cX7_turned 62 = .ok (.i2l, 1) := by decide +kernel
theorem dX7_turned_63 : decode cX7_turned 63 = .ok (.ldc2_w 155, 3) := by decide +kernel
theorem dX7_turned_66 : decode cX7_turned 66 = .ok (.ldc2_w 157, 3) := by decide +kernel
theorem dX7_turned_69 : decode cX7_turned 69 = .ok (.invokestatic 76, 3) := by decide +kernel
theorem dX7_turned_72 : decode cX7_turned 72 = .ok (.ifCond .eq 7, 3) := by decide +kernel
theorem dX7_turned_75 : decode cX7_turned 75 = .ok (.iconst 0, 1) := by decide +kernel
theorem dX7_turned_76 : decode cX7_turned 76 = .ok (.goto 5, 3) := by decide +kernel
theorem dX7_turned_79 : decode cX7_turned 79 = .ok (.iload_n 2, 1) := by decide +kernel
theorem dX7_turned_80 : decode cX7_turned 80 = .ok (.ineg, 1) := by decide +kernel
theorem dX7_turned_81 : decode cX7_turned 81 = .ok (.ireturn, 1) := by decide +kernel
theorem dX7_turned_82 : decode cX7_turned 82 = .ok (.iload_n 2, 1) := by decide +kernel
theorem dX7_turned_83 : decode cX7_turned 83 = .ok (.aload_n 0, 1) := by decide +kernel
theorem dX7_turned_84 : decode cX7_turned 84 = .ok (.iload_n 1, 1) := by decide +kernel
theorem dX7_turned_85 : decode cX7_turned 85 = .ok (.invokevirtual 159, 3) := by decide +kernel
theorem dX7_turned_88 : decode cX7_turned 88 = .ok (.iadd, 1) := by decide +kernel
theorem dX7_turned_89 : decode cX7_turned 89 = .ok (.ireturn, 1) := by decide +kernel
theorem dX7_turned_90 : decode cX7_turned 90 = .ok (.iload_n 2, 1) := by decide +kernel
theorem dX7_turned_91 : decode cX7_turned 91 = .ok (.ireturn, 1) := by decide +kernel
theorem dX7_ticks_0 : decode cX7_ticks 0 = .ok (.iconst 0, 1) := by decide +kernel
theorem dX7_ticks_1 : decode cX7_ticks 1 = .ok (.istore_n 1, 1) := by decide +kernel
theorem dX7_ticks_2 : decode cX7_ticks 2 = .ok (.iconst 0, 1) := by decide +kernel
theorem dX7_ticks_3 : decode cX7_ticks 3 = .ok (.istore_n 2, 1) := by decide +kernel
theorem dX7_ticks_4 : decode cX7_ticks 4 = .ok (.iload_n 2, 1) := by decide +kernel
theorem dX7_ticks_5 : decode cX7_ticks 5 = .ok (.aload_n 0, 1) := by decide +kernel
theorem dX7_ticks_6 : decode cX7_ticks 6 = .ok (.getfield 7, 3) := by decide +kernel
theorem dX7_ticks_9 : decode cX7_ticks 9 = .ok (.iconst 0, 1) := by decide +kernel
theorem dX7_ticks_10 : decode cX7_ticks 10 = .ok (.iaload, 1) := by decide +kernel
theorem dX7_ticks_11 : decode cX7_ticks 11 = .ok (.if_icmp .ge 47, 3) := by decide +kernel
theorem dX7_ticks_14 : decode cX7_ticks 14 = .ok (.aload_n 0, 1) := by decide +kernel
theorem dX7_ticks_15 : decode cX7_ticks 15 = .ok (.iload_n 2, 1) := by decide +kernel
theorem dX7_ticks_16 : decode cX7_ticks 16 = .ok (.invokevirtual 109, 3) := by decide +kernel
theorem dX7_ticks_19 : decode cX7_ticks 19 = .ok (.ifCond .eq 33, 3) := by decide +kernel
theorem dX7_ticks_22 : decode cX7_ticks 22 = .ok (.iload_n 1, 1) := by decide +kernel
theorem dX7_ticks_23 : decode cX7_ticks 23 = .ok (.iconst 1, 1) := by decide +kernel
theorem dX7_ticks_24 : decode cX7_ticks 24 = .ok (.iload_n 2, 1) := by decide +kernel
theorem dX7_ticks_25 : decode cX7_ticks 25 = .ok (.ishl, 1) := by decide +kernel
theorem dX7_ticks_26 : decode cX7_ticks 26 = .ok (.ior, 1) := by decide +kernel
theorem dX7_ticks_27 : decode cX7_ticks 27 = .ok (.istore_n 1, 1) := by decide +kernel
theorem dX7_ticks_28 : decode cX7_ticks 28 = .ok (.aload_n 0, 1) := by decide +kernel
theorem dX7_ticks_29 : decode cX7_ticks 29 = .ok (.getfield 43, 3) := by decide +kernel
theorem dX7_ticks_32 : decode cX7_ticks 32 = .ok (.iload_n 2, 1) := by decide +kernel
theorem dX7_ticks_33 : decode cX7_ticks 33 = .ok (.aload_n 0, 1) := by decide +kernel
theorem dX7_ticks_34 : decode cX7_ticks 34 = .ok (.iload_n 2, 1) := by decide +kernel
theorem dX7_ticks_35 : decode cX7_ticks 35 = .ok (.iconst 4, 1) := by decide +kernel
theorem dX7_ticks_36 : decode cX7_ticks 36 = .ok (.invokevirtual 80, 3) := by decide +kernel
theorem dX7_ticks_39 : decode cX7_ticks 39 = .ok (.aload_n 0, 1) := by decide +kernel
theorem dX7_ticks_40 : decode cX7_ticks 40 = .ok (.iload_n 2, 1) := by decide +kernel
theorem dX7_ticks_41 : decode cX7_ticks 41 = .ok (.invokevirtual 126, 3) := by decide +kernel
theorem dX7_ticks_44 : decode cX7_ticks 44 = .ok (.iadd, 1) := by decide +kernel
theorem dX7_ticks_45 : decode cX7_ticks 45 = .ok (.aload_n 0, 1) := by decide +kernel
theorem dX7_ticks_46 : decode cX7_ticks 46 = .ok (.iload_n 2, 1) := by decide +kernel
theorem dX7_ticks_47 : decode cX7_ticks 47 = .ok (.invokevirtual 162, 3) := by decide +kernel
theorem dX7_ticks_50 : decode cX7_ticks 50 = .ok (.iadd, 1) := by decide +kernel
theorem dX7_ticks_51 : decode cX7_ticks 51 = .ok (.iastore, 1) := by decide +kernel
theorem dX7_ticks_52 : decode cX7_ticks 52 = .ok (.iinc 2 1, 3) := by decide +kernel
theorem dX7_ticks_55 : decode cX7_ticks 55 = .ok (.goto (-51), 3) := by decide +kernel
theorem dX7_ticks_58 : decode cX7_ticks 58 = .ok (.iconst 0, 1) := by decide +kernel
theorem dX7_ticks_59 : decode cX7_ticks 59 = .ok (.istore_n 2, 1) := by decide +kernel
theorem dX7_ticks_60 : decode cX7_ticks 60 = .ok (.iconst 0, 1) := by decide +kernel
theorem dX7_ticks_61 : decode cX7_ticks 61 = .ok (.istore_n 3, 1) := by decide +kernel
theorem dX7_ticks_62 : decode cX7_ticks 62 = .ok (.iload_n 3, 1) := by decide +kernel
theorem dX7_ticks_63 : decode cX7_ticks 63 = .ok (.aload_n 0, 1) := by decide +kernel
theorem dX7_ticks_64 : decode cX7_ticks 64 = .ok (.getfield 7, 3) := by decide +kernel
theorem dX7_ticks_67 : decode cX7_ticks 67 = .ok (.iconst 0, 1) := by decide +kernel
theorem dX7_ticks_68 : decode cX7_ticks 68 = .ok (.iaload, 1) := by decide +kernel
theorem dX7_ticks_69 : decode cX7_ticks 69 = .ok (.if_icmp .ge 127, 3) := by decide +kernel
theorem dX7_ticks_72 : decode cX7_ticks 72 = .ok (.iload_n 1, 1) := by decide +kernel
theorem dX7_ticks_73 : decode cX7_ticks 73 = .ok (.iload_n 3, 1) := by decide +kernel
theorem dX7_ticks_74 : decode cX7_ticks 74 = .ok (.ishr, 1) := by decide +kernel
theorem dX7_ticks_75 : decode cX7_ticks 75 = .ok (.iconst 1, 1) := by decide +kernel
theorem dX7_ticks_76 : decode cX7_ticks 76 = .ok (.iand, 1) := by decide +kernel
theorem dX7_ticks_77 : decode cX7_ticks 77 = .ok (.iconst 1, 1) := by decide +kernel
theorem dX7_ticks_78 : decode cX7_ticks 78 = .ok (.if_icmp .ne 112, 3) := by decide +kernel
theorem dX7_ticks_81 : decode cX7_ticks 81 = .ok (.aload_n 0, 1) := by decide +kernel
theorem dX7_ticks_82 : decode cX7_ticks 82 = .ok (.iload_n 3, 1) := by decide +kernel
theorem dX7_ticks_83 : decode cX7_ticks 83 = .ok (.invokevirtual 72, 3) := by decide +kernel
theorem dX7_ticks_86 : decode cX7_ticks 86 = .ok (.istore 4, 2) := by decide +kernel
theorem dX7_ticks_88 : decode cX7_ticks 88 = .ok (.aload_n 0, 1) := by decide +kernel
theorem dX7_ticks_89 : decode cX7_ticks 89 = .ok (.getfield 43, 3) := by decide +kernel
theorem dX7_ticks_92 : decode cX7_ticks 92 = .ok (.iload_n 3, 1) := by decide +kernel
theorem dX7_ticks_93 : decode cX7_ticks 93 = .ok (.iaload, 1) := by decide +kernel
theorem dX7_ticks_94 : decode cX7_ticks 94 = .ok (.bipush 120, 2) := by decide +kernel
theorem dX7_ticks_96 : decode cX7_ticks 96 = .ok (.if_icmp .lt 7, 3) := by decide +kernel
theorem dX7_ticks_99 : decode cX7_ticks 99 = .ok (.iconst 1, 1) := by decide +kernel
theorem dX7_ticks_100 : decode cX7_ticks 100 = .ok (.goto 4, 3) := by decide +kernel
theorem dX7_ticks_103 : decode cX7_ticks 103 = .ok (.iconst 0, 1) := by decide +kernel
theorem dX7_ticks_104 : decode cX7_ticks 104 = .ok (.istore 5, 2) := by decide +kernel
theorem dX7_ticks_106 : decode cX7_ticks 106 = .ok (.aload_n 0, 1) := by decide +kernel
theorem dX7_ticks_107 : decode cX7_ticks 107 = .ok (.getfield 43, 3) := by decide +kernel
theorem dX7_ticks_110 : decode cX7_ticks 110 = .ok (.iload_n 3, 1) := by decide +kernel
theorem dX7_ticks_111 : decode cX7_ticks 111 = .ok (.iaload, 1) := by decide +kernel
theorem dX7_ticks_112 : decode cX7_ticks 112 = .ok (.bipush 120, 2) := by decide +kernel
theorem dX7_ticks_114 : decode cX7_ticks 114 = .ok (.irem, 1) := by decide +kernel
theorem dX7_ticks_115 : decode cX7_ticks 115 = .ok (.istore 6, 2) := by decide +kernel
theorem dX7_ticks_117 : decode cX7_ticks 117 = .ok (.aload_n 0, 1) := by decide +kernel
theorem dX7_ticks_118 : decode cX7_ticks 118 = .ok (.getfield 7, 3) := by decide +kernel
theorem dX7_ticks_121 : decode cX7_ticks 121 = .ok (.iload 4, 2) := by decide +kernel
theorem dX7_ticks_123 : decode cX7_ticks 123 = .ok (.iconst 4, 1) := by decide +kernel
theorem dX7_ticks_124 : decode cX7_ticks 124 = .ok (.iadd, 1) := by decide +kernel
theorem dX7_ticks_125 : decode cX7_ticks 125 = .ok (.iload 6, 2) := by decide +kernel
theorem dX7_ticks_127 : decode cX7_ticks 127 = .ok (.ifCond .ge 11, 3) := by decide +kernel
theorem dX7_ticks_130 : decode cX7_ticks 130 = .ok (.iload 6, 2) := by decide +kernel
theorem dX7_ticks_132 : decode cX7_ticks 132 = .ok (.bipush 120, 2) := by decide +kernel
theorem dX7_ticks_134 : decode cX7_ticks 134 = .ok (.iadd, 1) := by decide +kernel
theorem dX7_ticks_135 : decode cX7_ticks 135 = .ok (.goto 5, 3) := by decide +kernel
theorem dX7_ticks_138 : decode cX7_ticks 138 = .ok (.iload 6, 2) := by decide +kernel
theorem dX7_ticks_140 : decode cX7_ticks 140 = .ok (.iastore, 1) := by decide +kernel
theorem dX7_ticks_141 : decode cX7_ticks 141 = .ok (.aload_n 0, 1) := by decide +kernel
theorem dX7_ticks_142 : decode cX7_ticks 142 = .ok (.getfield 7, 3) := by decide +kernel
theorem dX7_ticks_145 : decode cX7_ticks 145 = .ok (.iload 4, 2) := by decide +kernel
theorem dX7_ticks_147 : decode cX7_ticks 147 = .ok (.iconst 5, 1) := by decide +kernel
theorem dX7_ticks_148 : decode cX7_ticks 148 = .ok (.iadd, 1) := by decide +kernel
theorem dX7_ticks_149 : decode cX7_ticks 149 = .ok (.aload_n 0, 1) := by decide +kernel
theorem dX7_ticks_150 : decode cX7_ticks 150 = .ok (.iload_n 3, 1) := by decide +kernel
theorem dX7_ticks_151 : decode cX7_ticks 151 = .ok (.iconst 5, 1) := by decide +kernel
theorem dX7_ticks_152 : decode cX7_ticks 152 = .ok (.invokevirtual 80, 3) := by decide +kernel
theorem dX7_ticks_155 : decode cX7_ticks 155 = .ok (.aload_n 0, 1) := by decide +kernel
theorem dX7_ticks_156 : decode cX7_ticks 156 = .ok (.iload_n 3, 1) := by decide +kernel
theorem dX7_ticks_157 : decode cX7_ticks 157 = .ok (.iconst 3, 1) := by decide +kernel
theorem dX7_ticks_158 : decode cX7_ticks 158 = .ok (.invokevirtual 80, 3) := by decide +kernel
theorem dX7_ticks_161 : decode cX7_ticks 161 = .ok (.isub, 1) := by decide +kernel
theorem dX7_ticks_162 : decode cX7_ticks 162 = .ok (.iconst 0, 1) := by decide +kernel
theorem dX7_ticks_163 : decode cX7_ticks 163 = .ok (.sipush 999, 3) := by decide +kernel
theorem dX7_ticks_166 : decode cX7_ticks 166 = .ok (.invokestatic 105, 3) := by decide +kernel
theorem dX7_ticks_169 : decode cX7_ticks 169 = .ok (.iastore, 1) := by decide +kernel
theorem dX7_ticks_170 : decode cX7_ticks 170 = .ok (.aload_n 0, 1) := by decide +kernel
theorem dX7_ticks_171 : decode cX7_ticks 171 = .ok (.getfield 7, 3) := by decide +kernel
theorem dX7_ticks_174 : decode cX7_ticks 174 = .ok (.iload 4, 2) := by decide +kernel
theorem dX7_ticks_176 : decode cX7_ticks 176 = .ok (.bipush 6, 2) := by decide +kernel
theorem dX7_ticks_178 : decode cX7_ticks 178 = .ok (.iadd, 1) := by decide +kernel
theorem dX7_ticks_179 : decode cX7_ticks 179 = .ok (.dup2, 1) := by decide +kernel
theorem dX7_ticks_180 : decode cX7_ticks 180 = .ok (.iaload, 1) := by decide +kernel
theorem dX7_ticks_181 : decode cX7_ticks 181 = .ok (.iload 5, 2) := by decide +kernel
theorem dX7_ticks_183 : decode cX7_ticks 183 = .ok (.iadd, 1) := by decide +kernel
theorem dX7_ticks_184 : decode cX7_ticks 184 = .ok (.iastore, 1) := by decide +kernel
theorem dX7_ticks_185 : decode cX7_ticks 185 = .ok (.iload_n 2, 1) := by decide +kernel
theorem dX7_ticks_186 : decode cX7_ticks 186 = .ok (.iload 5, 2) := by decide +kernel
theorem dX7_ticks_188 : decode cX7_ticks 188 = .ok (.iadd, 1) := by decide +kernel
theorem dX7_ticks_189 : decode cX7_ticks 189 = .ok (.istore_n 2, 1) := by decide +kernel
theorem dX7_ticks_190 : decode cX7_ticks 190 = .ok (.iinc 3 1, 3) := by decide +kernel
theorem dX7_ticks_193 : decode cX7_ticks 193 = .ok (.goto (-131), 3) := by decide +kernel
theorem dX7_ticks_196 : decode cX7_ticks 196 = .ok (.aload_n 0, 1) := by decide +kernel
theorem dX7_ticks_197 : decode cX7_ticks 197 = .ok (.getfield 7, 3) := by decide +kernel
theorem dX7_ticks_200 : decode cX7_ticks 200 = .ok (.iconst 2, 1) := by decide +kernel
theorem dX7_ticks_201 : decode cX7_ticks 201 = .ok (.dup2, 1) := by decide +kernel
theorem dX7_ticks_202 : decode cX7_ticks 202 = .ok (.iaload, 1) := by decide +kernel
theorem dX7_ticks_203 : decode cX7_ticks 203 = .ok (.iconst 1, 1) := by decide +kernel
theorem dX7_ticks_204 : decode cX7_ticks 204 = .ok (.iadd, 1) := by decide +kernel
theorem dX7_ticks_205 : decode cX7_ticks 205 = .ok (.iastore, 1) := by decide +kernel
theorem dX7_ticks_206 : decode cX7_ticks 206 = .ok (.iload_n 2, 1) := by decide +kernel
theorem dX7_ticks_207 : decode cX7_ticks 207 = .ok (.ireturn, 1) := by decide +kernel
theorem dX7_run_0 : decode cX7_run 0 = .ok (.iload_n 1, 1) := by decide +kernel
theorem dX7_run_1 : decode cX7_run 1 = .ok (.i2l, 1) := by decide +kernel
theorem dX7_run_2 : decode cX7_run 2 = .ok (.lconst 1, 1) := by decide +kernel
theorem dX7_run_3 : decode cX7_run 3 = .ok (.ldc2_w 165, 3) := by decide +kernel
theorem dX7_run_6 : decode cX7_run 6 = .ok (.invokestatic 76, 3) := by decide +kernel
theorem dX7_run_9 : decode cX7_run 9 = .ok (.ifCond .ne 6, 3) := by decide +kernel
theorem dX7_run_12 : decode cX7_run 12 = .ok (.ldc 93, 2) := by decide +kernel
theorem dX7_run_14 : decode cX7_run 14 = .ok (.ireturn, 1) := by decide +kernel
theorem dX7_run_15 : decode cX7_run 15 = .ok (.iconst 0, 1) := by decide +kernel
theorem dX7_run_16 : decode cX7_run 16 = .ok (.istore_n 2, 1) := by decide +kernel
theorem dX7_run_17 : decode cX7_run 17 = .ok (.iconst 0, 1) := by decide +kernel
theorem dX7_run_18 : decode cX7_run 18 = .ok (.istore_n 3, 1) := by decide +kernel
theorem dX7_run_19 : decode cX7_run 19 = .ok (.iload_n 3, 1) := by decide +kernel
theorem dX7_run_20 : decode cX7_run 20 = .ok (.iload_n 1, 1) := by decide +kernel
theorem dX7_run_21 : decode cX7_run 21 = .ok (.if_icmp .ge 16, 3) := by decide +kernel
theorem dX7_run_24 : decode cX7_run 24 = .ok (.iload_n 2, 1) := by decide +kernel
theorem dX7_run_25 : decode cX7_run 25 = .ok (.aload_n 0, 1) := by decide +kernel
theorem dX7_run_26 : decode cX7_run 26 = .ok (.invokevirtual 167, 3) := by decide +kernel
theorem dX7_run_29 : decode cX7_run 29 = .ok (.iadd, 1) := by decide +kernel
theorem dX7_run_30 : decode cX7_run 30 = .ok (.istore_n 2, 1) := by decide +kernel
theorem dX7_run_31 : decode cX7_run 31 = .ok (.iinc 3 1, 3) := by decide +kernel
theorem dX7_run_34 : decode cX7_run 34 = .ok (.goto (-15), 3) := by decide +kernel
theorem dX7_run_37 : decode cX7_run 37 = .ok (.iload_n 2, 1) := by decide +kernel
theorem dX7_run_38 : decode cX7_run 38 = .ok (.ireturn, 1) := by decide +kernel
theorem dX7_findSteps_0 : decode cX7_findSteps 0 = .ok (.iconst 0, 1) := by decide +kernel
theorem dX7_findSteps_1 : decode cX7_findSteps 1 = .ok (.istore_n 2, 1) := by decide +kernel
theorem dX7_findSteps_2 : decode cX7_findSteps 2 = .ok (.iload_n 2, 1) := by decide +kernel
theorem dX7_findSteps_3 : decode cX7_findSteps 3 = .ok (.bipush 120, 2) := by decide +kernel
theorem dX7_findSteps_5 : decode cX7_findSteps 5 = .ok (.if_icmp .ge 16, 3) := by decide +kernel
theorem dX7_findSteps_8 : decode cX7_findSteps 8 = .ok (.aload_n 0, 1) := by decide +kernel
theorem dX7_findSteps_9 : decode cX7_findSteps 9 = .ok (.getfield 46, 3) := by decide +kernel
theorem dX7_findSteps_12 : decode cX7_findSteps 12 = .ok (.iload_n 2, 1) := by decide +kernel
theorem dX7_findSteps_13 : decode cX7_findSteps 13 = .ok (.iconst 0, 1) := by decide +kernel
theorem dX7_findSteps_14 : decode cX7_findSteps 14 = .ok (.bastore, 1) := by decide +kernel
theorem dX7_findSteps_15 : decode cX7_findSteps 15 = .ok (.iinc 2 1, 3) := by decide +kernel
theorem dX7_findSteps_18 : decode cX7_findSteps 18 = .ok (.goto (-16), 3) := by decide +kernel
theorem dX7_findSteps_21 : decode cX7_findSteps 21 = .ok (.iconst 0, 1) := by decide +kernel
theorem dX7_findSteps_22 : decode cX7_findSteps 22 = .ok (.istore_n 2, 1) := by decide +kernel
theorem dX7_findSteps_23 : decode cX7_findSteps 23 = .ok (.iconst 0, 1) := by decide +kernel
theorem dX7_findSteps_24 : decode cX7_findSteps 24 = .ok (.istore_n 3, 1) := by decide +kernel
theorem dX7_findSteps_25 : decode cX7_findSteps 25 = .ok (.iload_n 3, 1) := by decide +kernel
theorem dX7_findSteps_26 : decode cX7_findSteps 26 = .ok (.aload_n 0, 1) := by decide +kernel
theorem dX7_findSteps_27 : decode cX7_findSteps 27 = .ok (.getfield 7, 3) := by decide +kernel
theorem dX7_findSteps_30 : decode cX7_findSteps 30 = .ok (.iconst 0, 1) := by decide +kernel
theorem dX7_findSteps_31 : decode cX7_findSteps 31 = .ok (.iaload, 1) := by decide +kernel
theorem dX7_findSteps_32 : decode cX7_findSteps 32 = .ok (.if_icmp .ge 31, 3) := by decide +kernel
theorem dX7_findSteps_35 : decode cX7_findSteps 35 = .ok (.aload_n 0, 1) := by decide +kernel
theorem dX7_findSteps_36 : decode cX7_findSteps 36 = .ok (.iload_n 3, 1) := by decide +kernel
theorem dX7_findSteps_37 : decode cX7_findSteps 37 = .ok (.invokevirtual 109, 3) := by decide +kernel
theorem dX7_findSteps_40 : decode cX7_findSteps 40 = .ok (.ifCond .eq 17, 3) := by decide +kernel
theorem dX7_findSteps_43 : decode cX7_findSteps 43 = .ok (.aload_n 0, 1) := by decide +kernel
theorem dX7_findSteps_44 : decode cX7_findSteps 44 = .ok (.getfield 46, 3) := by decide +kernel
theorem dX7_findSteps_47 : decode cX7_findSteps 47 = .ok (.aload_n 0, 1) := by decide +kernel
theorem dX7_findSteps_48 : decode cX7_findSteps 48 = .ok (.iload_n 3, 1) := by decide +kernel
theorem dX7_findSteps_49 : decode cX7_findSteps 49 = .ok (.iconst 4, 1) := by decide +kernel
theorem dX7_findSteps_50 : decode cX7_findSteps 50 = .ok (.invokevirtual 80, 3) := by decide +kernel
theorem dX7_findSteps_53 : decode cX7_findSteps 53 = .ok (.iconst 1, 1) := by decide +kernel
theorem dX7_findSteps_54 : decode cX7_findSteps 54 = .ok (.bastore, 1) := by decide +kernel
theorem dX7_findSteps_55 : decode cX7_findSteps 55 = .ok (.iconst 1, 1) := by decide +kernel
theorem dX7_findSteps_56 : decode cX7_findSteps 56 = .ok (.istore_n 2, 1) := by decide +kernel
theorem dX7_findSteps_57 : decode cX7_findSteps 57 = .ok (.iinc 3 1, 3) := by decide +kernel
theorem dX7_findSteps_60 : decode cX7_findSteps 60 = .ok (.goto (-35), 3) := by decide +kernel
theorem dX7_findSteps_63 : decode cX7_findSteps 63 = .ok (.aload_n 0, 1) := by decide +kernel
theorem dX7_findSteps_64 : decode cX7_findSteps 64 = .ok (.iconst 0, 1) := by decide +kernel
theorem dX7_findSteps_65 : decode cX7_findSteps 65 = .ok (.putfield 170, 3) := by decide +kernel
theorem dX7_findSteps_68 : decode cX7_findSteps 68 = .ok (.aload_n 0, 1) := by decide +kernel
theorem dX7_findSteps_69 : decode cX7_findSteps 69 = .ok (.iconst 0, 1) := by decide +kernel
theorem dX7_findSteps_70 : decode cX7_findSteps 70 = .ok (.putfield 174, 3) := by decide +kernel
theorem dX7_findSteps_73 : decode cX7_findSteps 73 = .ok (.iconst 0, 1) := by decide +kernel
theorem dX7_findSteps_74 : decode cX7_findSteps 74 = .ok (.istore_n 3, 1) := by decide +kernel
theorem dX7_findSteps_75 : decode cX7_findSteps 75 = .ok (.iload_n 3, 1) := by decide +kernel
theorem dX7_findSteps_76 : decode cX7_findSteps 76 = .ok (.bipush 120, 2) := by decide +kernel
theorem dX7_findSteps_78 : decode cX7_findSteps 78 = .ok (.if_icmp .ge 88, 3) := by decide +kernel
theorem dX7_findSteps_81 : decode cX7_findSteps 81 = .ok (.iload_n 2, 1) := by decide +kernel
theorem dX7_findSteps_82 : decode cX7_findSteps 82 = .ok (.ifCond .eq 84, 3) := by decide +kernel
theorem dX7_findSteps_85 : decode cX7_findSteps 85 = .ok (.aload_n 0, 1) := by decide +kernel
theorem dX7_findSteps_86 : decode cX7_findSteps 86 = .ok (.getfield 46, 3) := by decide +kernel
theorem dX7_findSteps_89 : decode cX7_findSteps 89 = .ok (.iload_n 3, 1) := by decide +kernel
theorem dX7_findSteps_90 : decode cX7_findSteps 90 = .ok (.baload, 1) := by decide +kernel
theorem dX7_findSteps_91 : decode cX7_findSteps 91 = .ok (.ifCond .eq 69, 3) := by decide +kernel
theorem dX7_findSteps_94 : decode cX7_findSteps 94 = .ok (.iconst 1, 1) := by decide +kernel
theorem dX7_findSteps_95 : decode cX7_findSteps 95 = .ok (.istore 4, 2) := by decide +kernel
theorem dX7_findSteps_97 : decode cX7_findSteps 97 = .ok (.aload_n 0, 1) := by decide +kernel
theorem dX7_findSteps_98 : decode cX7_findSteps 98 = .ok (.getfield 46, 3) := by decide +kernel
theorem dX7_findSteps_101 : decode cX7_findSteps 101 = .ok (.iload_n 3, 1) := by decide +kernel
theorem dX7_findSteps_102 : decode cX7_findSteps 102 = .ok (.iload 4, 2) := by decide +kernel
theorem dX7_findSteps_104 : decode cX7_findSteps 104 = .ok (.iadd, 1) := by decide +kernel
theorem dX7_findSteps_105 : decode cX7_findSteps 105 = .ok (.bipush 120, 2) := by decide +kernel
theorem dX7_findSteps_107 : decode cX7_findSteps 107 = .ok (.irem, 1) := by decide +kernel
theorem dX7_findSteps_108 : decode cX7_findSteps 108 = .ok (.baload, 1) := by decide +kernel
theorem dX7_findSteps_109 : decode cX7_findSteps 109 = .ok (.ifCond .ne 9, 3) := by decide +kernel
theorem dX7_findSteps_112 : decode cX7_findSteps 112 = .ok (.iinc 4 1, 3) := by decide +kernel
theorem dX7_findSteps_115 : decode cX7_findSteps 115 = .ok (.goto (-18), 3) := by decide +kernel
theorem dX7_findSteps_118 : decode cX7_findSteps 118 = .ok (.aload_n 0, 1) := by decide +kernel
theorem dX7_findSteps_119 : decode cX7_findSteps 119 = .ok (.iload 4, 2) := by decide +kernel
theorem dX7_findSteps_121 : decode cX7_findSteps 121 = .ok (.aload_n 0, 1) := by decide +kernel
theorem dX7_findSteps_122 : decode cX7_findSteps 122 = .ok (.getfield 170, 3) := by decide +kernel
theorem dX7_findSteps_125 : decode cX7_findSteps 125 = .ok (.if_icmp .le 8, 3) := by decide +kernel
theorem dX7_findSteps_128 : decode cX7_findSteps 128 = .ok (.iload 4, 2) := by decide +kernel
theorem dX7_findSteps_130 : decode cX7_findSteps 130 = .ok (.goto 7, 3) := by decide +kernel
theorem dX7_findSteps_133 : decode cX7_findSteps 133 = .ok (.aload_n 0, 1) := by decide +kernel
theorem dX7_findSteps_134 : decode cX7_findSteps 134 = .ok (.getfield 170, 3) := by decide +kernel
theorem dX7_findSteps_137 : decode cX7_findSteps 137 = .ok (.putfield 170, 3) := by decide +kernel
theorem dX7_findSteps_140 : decode cX7_findSteps 140 = .ok (.aload_n 0, 1) := by decide +kernel
theorem dX7_findSteps_141 : decode cX7_findSteps 141 = .ok (.dup, 1) := by decide +kernel
theorem dX7_findSteps_142 : decode cX7_findSteps 142 = .ok (.getfield 174, 3) := by decide +kernel
theorem dX7_findSteps_145 : decode cX7_findSteps 145 = .ok (.iload 4, 2) := by decide +kernel
theorem dX7_findSteps_147 : decode cX7_findSteps 147 = .ok (.iload_n 1, 1) := by decide +kernel
theorem dX7_findSteps_148 : decode cX7_findSteps 148 = .ok (.if_icmp .le 7, 3) := by decide +kernel
theorem dX7_findSteps_151 : decode cX7_findSteps 151 = .ok (.iconst 1, 1) := by decide +kernel
theorem dX7_findSteps_152 : decode cX7_findSteps 152 = .ok (.goto 4, 3) := by decide +kernel
theorem dX7_findSteps_155 : decode cX7_findSteps 155 = .ok (.iconst 0, 1) := by decide +kernel
theorem dX7_findSteps_156 : decode cX7_findSteps 156 = .ok (.iadd, 1) := by decide +kernel
theorem dX7_findSteps_157 : decode cX7_findSteps 157 = .ok (.putfield 174, 3) := by decide +kernel
theorem dX7_findSteps_160 : decode cX7_findSteps 160 = .ok (.iinc 3 1, 3) := by decide +kernel
theorem dX7_findSteps_163 : decode cX7_findSteps 163 = .ok (.goto (-88), 3) := by decide +kernel
theorem dX7_findSteps_166 : decode cX7_findSteps 166 = .ok (.iload_n 2, 1) := by decide +kernel
theorem dX7_findSteps_167 : decode cX7_findSteps 167 = .ok (.ireturn, 1) := by decide +kernel
theorem dX7_spreadNow_0 : decode cX7_spreadNow 0 = .ok (.aload_n 0, 1) := by decide +kernel
theorem dX7_spreadNow_1 : decode cX7_spreadNow 1 = .ok (.iconst 0, 1) := by decide +kernel
theorem dX7_spreadNow_2 : decode cX7_spreadNow 2 = .ok (.invokevirtual 177, 3) := by decide +kernel
theorem dX7_spreadNow_5 : decode cX7_spreadNow 5 = .ok (.ifCond .eq 13, 3) := by decide +kernel
theorem dX7_spreadNow_8 : decode cX7_spreadNow 8 = .ok (.bipush 120, 2) := by decide +kernel
theorem dX7_spreadNow_10 : decode cX7_spreadNow 10 = .ok (.aload_n 0, 1) := by decide +kernel
theorem dX7_spreadNow_11 : decode cX7_spreadNow 11 = .ok (.getfield 170, 3) := by decide +kernel
theorem dX7_spreadNow_14 : decode cX7_spreadNow 14 = .ok (.isub, 1) := by decide +kernel
theorem dX7_spreadNow_15 : decode cX7_spreadNow 15 = .ok (.goto 4, 3) := by decide +kernel
theorem dX7_spreadNow_18 : decode cX7_spreadNow 18 = .ok (.iconst (-1), 1) := by decide +kernel
theorem dX7_spreadNow_19 : decode cX7_spreadNow 19 = .ok (.ireturn, 1) := by decide +kernel
theorem dX7_spread_0 : decode cX7_spread 0 = .ok (.aload_n 0, 1) := by decide +kernel
theorem dX7_spread_1 : decode cX7_spread 1 = .ok (.invokevirtual 180, 3) := by decide +kernel
theorem dX7_spread_4 : decode cX7_spread 4 = .ok (.invokestatic 183, 3) := by decide +kernel
theorem dX7_spread_7 : decode cX7_spread 7 = .ok (.ireturn, 1) := by decide +kernel
theorem dX7_groups_0 : decode cX7_groups 0 = .ok (.iload_n 1, 1) := by decide +kernel
theorem dX7_groups_1 : decode cX7_groups 1 = .ok (.i2l, 1) := by decide +kernel
theorem dX7_groups_2 : decode cX7_groups 2 = .ok (.lconst 0, 1) := by decide +kernel
theorem dX7_groups_3 : decode cX7_groups 3 = .ok (.ldc2_w 143, 3) := by decide +kernel
theorem dX7_groups_6 : decode cX7_groups 6 = .ok (.invokestatic 76, 3) := by decide +kernel
theorem dX7_groups_9 : decode cX7_groups 9 = .ok (.ifCond .ne 6, 3) := by decide +kernel
theorem dX7_groups_12 : decode cX7_groups 12 = .ok (.ldc 93, 2) := by decide +kernel
theorem dX7_groups_14 : decode cX7_groups 14 = .ok (.ireturn, 1) := by decide +kernel
theorem dX7_groups_15 : decode cX7_groups 15 = .ok (.aload_n 0, 1) := by decide +kernel
theorem dX7_groups_16 : decode cX7_groups 16 = .ok (.iload_n 1, 1) := by decide +kernel
theorem dX7_groups_17 : decode cX7_groups 17 = .ok (.invokevirtual 177, 3) := by decide +kernel
theorem dX7_groups_20 : decode cX7_groups 20 = .ok (.ifCond .ne 7, 3) := by decide +kernel
theorem dX7_groups_23 : decode cX7_groups 23 = .ok (.iconst 0, 1) := by decide +kernel
theorem dX7_groups_24 : decode cX7_groups 24 = .ok (.goto 18, 3) := by decide +kernel
theorem dX7_groups_27 : decode cX7_groups 27 = .ok (.aload_n 0, 1) := by decide +kernel
theorem dX7_groups_28 : decode cX7_groups 28 = .ok (.getfield 174, 3) := by decide +kernel
theorem dX7_groups_31 : decode cX7_groups 31 = .ok (.ifCond .ne 7, 3) := by decide +kernel
theorem dX7_groups_34 : decode cX7_groups 34 = .ok (.iconst 1, 1) := by decide +kernel
theorem dX7_groups_35 : decode cX7_groups 35 = .ok (.goto 7, 3) := by decide +kernel
theorem dX7_groups_38 : decode cX7_groups 38 = .ok (.aload_n 0, 1) := by decide +kernel
theorem dX7_groups_39 : decode cX7_groups 39 = .ok (.getfield 174, 3) := by decide +kernel
theorem dX7_groups_42 : decode cX7_groups 42 = .ok (.ireturn, 1) := by decide +kernel
theorem dX7_laysBy_0 : decode cX7_laysBy 0 = .ok (.iconst 0, 1) := by decide +kernel
theorem dX7_laysBy_1 : decode cX7_laysBy 1 = .ok (.istore_n 1, 1) := by decide +kernel
theorem dX7_laysBy_2 : decode cX7_laysBy 2 = .ok (.iload_n 1, 1) := by decide +kernel
theorem dX7_laysBy_3 : decode cX7_laysBy 3 = .ok (.bipush 70, 2) := by decide +kernel
theorem dX7_laysBy_5 : decode cX7_laysBy 5 = .ok (.if_icmp .ge 21, 3) := by decide +kernel
theorem dX7_laysBy_8 : decode cX7_laysBy 8 = .ok (.aload_n 0, 1) := by decide +kernel
theorem dX7_laysBy_9 : decode cX7_laysBy 9 = .ok (.getfield 50, 3) := by decide +kernel
theorem dX7_laysBy_12 : decode cX7_laysBy 12 = .ok (.iload_n 1, 1) := by decide +kernel
theorem dX7_laysBy_13 : decode cX7_laysBy 13 = .ok (.aload_n 0, 1) := by decide +kernel
theorem dX7_laysBy_14 : decode cX7_laysBy 14 = .ok (.getfield 7, 3) := by decide +kernel
theorem dX7_laysBy_17 : decode cX7_laysBy 17 = .ok (.iload_n 1, 1) := by decide +kernel
theorem dX7_laysBy_18 : decode cX7_laysBy 18 = .ok (.iaload, 1) := by decide +kernel
theorem dX7_laysBy_19 : decode cX7_laysBy 19 = .ok (.iastore, 1) := by decide +kernel
theorem dX7_laysBy_20 : decode cX7_laysBy 20 = .ok (.iinc 1 1, 3) := by decide +kernel
theorem dX7_laysBy_23 : decode cX7_laysBy 23 = .ok (.goto (-21), 3) := by decide +kernel
theorem dX7_laysBy_26 : decode cX7_laysBy 26 = .ok (.return_, 1) := by decide +kernel
theorem dX7_laysBack_0 : decode cX7_laysBack 0 = .ok (.iconst 0, 1) := by decide +kernel
theorem dX7_laysBack_1 : decode cX7_laysBack 1 = .ok (.istore_n 1, 1) := by decide +kernel
theorem dX7_laysBack_2 : decode cX7_laysBack 2 = .ok (.iload_n 1, 1) := by decide +kernel
theorem dX7_laysBack_3 : decode cX7_laysBack 3 = .ok (.bipush 70, 2) := by decide +kernel
theorem dX7_laysBack_5 : decode cX7_laysBack 5 = .ok (.if_icmp .ge 21, 3) := by decide +kernel
theorem dX7_laysBack_8 : decode cX7_laysBack 8 = .ok (.aload_n 0, 1) := by decide +kernel
theorem dX7_laysBack_9 : decode cX7_laysBack 9 = .ok (.getfield 7, 3) := by decide +kernel
theorem dX7_laysBack_12 : decode cX7_laysBack 12 = .ok (.iload_n 1, 1) := by decide +kernel
theorem dX7_laysBack_13 : decode cX7_laysBack 13 = .ok (.aload_n 0, 1) := by decide +kernel
theorem dX7_laysBack_14 : decode cX7_laysBack 14 = .ok (.getfield 50, 3) := by decide +kernel
theorem dX7_laysBack_17 : decode cX7_laysBack 17 = .ok (.iload_n 1, 1) := by decide +kernel
theorem dX7_laysBack_18 : decode cX7_laysBack 18 = .ok (.iaload, 1) := by decide +kernel
theorem dX7_laysBack_19 : decode cX7_laysBack 19 = .ok (.iastore, 1) := by decide +kernel
theorem dX7_laysBack_20 : decode cX7_laysBack 20 = .ok (.iinc 1 1, 3) := by decide +kernel
theorem dX7_laysBack_23 : decode cX7_laysBack 23 = .ok (.goto (-21), 3) := by decide +kernel
theorem dX7_laysBack_26 : decode cX7_laysBack 26 = .ok (.return_, 1) := by decide +kernel
theorem dX7_isBound_0 : decode cX7_isBound 0 = .ok (.iload_n 0, 1) := by decide +kernel
theorem dX7_isBound_1 : decode cX7_isBound 1 = .ok (.i2l, 1) := by decide +kernel
theorem dX7_isBound_2 : decode cX7_isBound 2 = .ok (.lconst 0, 1) := by decide +kernel
theorem dX7_isBound_3 : decode cX7_isBound 3 = .ok (.ldc2_w 143, 3) := by decide +kernel
theorem dX7_isBound_6 : decode cX7_isBound 6 = .ok (.invokestatic 76, 3) := by decide +kernel
theorem dX7_isBound_9 : decode cX7_isBound 9 = .ok (.ireturn, 1) := by decide +kernel
theorem dX7_soon_0 : decode cX7_soon 0 = .ok (.iload_n 1, 1) := by decide +kernel
theorem dX7_soon_1 : decode cX7_soon 1 = .ok (.invokestatic 186, 3) := by decide +kernel
theorem dX7_soon_4 : decode cX7_soon 4 = .ok (.ifCond .ne 6, 3) := by decide +kernel
theorem dX7_soon_7 : decode cX7_soon 7 = .ok (.ldc 93, 2) := by decide +kernel
theorem dX7_soon_9 : decode cX7_soon 9 = .ok (.ireturn, 1) := by decide +kernel
theorem dX7_soon_10 : decode cX7_soon 10 = .ok (.aload_n 0, 1) := by decide +kernel
theorem dX7_soon_11 : decode cX7_soon 11 = .ok (.invokevirtual 189, 3) := by decide +kernel
theorem dX7_soon_14 : decode cX7_soon 14 = .ok (.iconst 0, 1) := by decide +kernel
theorem dX7_soon_15 : decode cX7_soon 15 = .ok (.istore_n 2, 1) := by decide +kernel
theorem dX7_soon_16 : decode cX7_soon 16 = .ok (.iload_n 2, 1) := by decide +kernel
theorem dX7_soon_17 : decode cX7_soon 17 = .ok (.sipush 200, 3) := by decide +kernel
theorem dX7_soon_20 : decode cX7_soon 20 = .ok (.if_icmp .gt 28, 3) := by decide +kernel
theorem dX7_soon_23 : decode cX7_soon 23 = .ok (.aload_n 0, 1) := by decide +kernel
theorem dX7_soon_24 : decode cX7_soon 24 = .ok (.invokevirtual 180, 3) := by decide +kernel
theorem dX7_soon_27 : decode cX7_soon 27 = .ok (.i2l, 1) := by decide +kernel
theorem dX7_soon_28 : decode cX7_soon 28 = .ok (.lconst 0, 1) := by decide +kernel
theorem dX7_soon_29 : decode cX7_soon 29 = .ok (.iload_n 1, 1) := by decide +kernel
theorem dX7_soon_30 : decode cX7_soon 30 = .ok (.i2l, 1) := by decide +kernel
theorem dX7_soon_31 : decode cX7_soon 31 = .ok (.invokestatic 76, 3) := by decide +kernel
theorem dX7_soon_34 : decode cX7_soon 34 = .ok (.ifCond .ne 14, 3) := by decide +kernel
theorem dX7_soon_37 : decode cX7_soon 37 = .ok (.aload_n 0, 1) := by decide +kernel
theorem dX7_soon_38 : decode cX7_soon 38 = .ok (.invokevirtual 167, 3) := by decide +kernel
theorem dX7_soon_41 : decode cX7_soon 41 = .ok (.istore_n 3, 1) := by decide +kernel
theorem dX7_soon_42 : decode cX7_soon 42 = .ok (.iinc 2 1, 3) := by decide +kernel
theorem dX7_soon_45 : decode cX7_soon 45 = .ok (.goto (-29), 3) := by decide +kernel
theorem dX7_soon_48 : decode cX7_soon 48 = .ok (.aload_n 0, 1) := by decide +kernel
theorem dX7_soon_49 : decode cX7_soon 49 = .ok (.invokevirtual 192, 3) := by decide +kernel
theorem dX7_soon_52 : decode cX7_soon 52 = .ok (.iload_n 2, 1) := by decide +kernel
theorem dX7_soon_53 : decode cX7_soon 53 = .ok (.sipush 200, 3) := by decide +kernel
theorem dX7_soon_56 : decode cX7_soon 56 = .ok (.if_icmp .le 8, 3) := by decide +kernel
theorem dX7_soon_59 : decode cX7_soon 59 = .ok (.ldc 71, 2) := by decide +kernel
theorem dX7_soon_61 : decode cX7_soon 61 = .ok (.goto 4, 3) := by decide +kernel
theorem dX7_soon_64 : decode cX7_soon 64 = .ok (.iload_n 2, 1) := by decide +kernel
theorem dX7_soon_65 : decode cX7_soon 65 = .ok (.ireturn, 1) := by decide +kernel
theorem dX7_isAsLaidBy_0 : decode cX7_isAsLaidBy 0 = .ok (.iconst 1, 1) := by decide +kernel
theorem dX7_isAsLaidBy_1 : decode cX7_isAsLaidBy 1 = .ok (.istore_n 1, 1) := by decide +kernel
theorem dX7_isAsLaidBy_2 : decode cX7_isAsLaidBy 2 = .ok (.iconst 0, 1) := by decide +kernel
theorem dX7_isAsLaidBy_3 : decode cX7_isAsLaidBy 3 = .ok (.istore_n 2, 1) := by decide +kernel
theorem dX7_isAsLaidBy_4 : decode cX7_isAsLaidBy 4 = .ok (.iload_n 2, 1) := by decide +kernel
theorem dX7_isAsLaidBy_5 : decode cX7_isAsLaidBy 5 = .ok (.aload_n 0, 1) := by decide +kernel
theorem dX7_isAsLaidBy_6 : decode cX7_isAsLaidBy 6 = .ok (.getfield 7, 3) := by decide +kernel
theorem dX7_isAsLaidBy_9 : decode cX7_isAsLaidBy 9 = .ok (.iconst 0, 1) := by decide +kernel
theorem dX7_isAsLaidBy_10 : decode cX7_isAsLaidBy 10 = .ok (.iaload, 1) := by decide +kernel
theorem dX7_isAsLaidBy_11 : decode cX7_isAsLaidBy 11 = .ok (.if_icmp .ge 40, 3) := by decide +kernel
theorem dX7_isAsLaidBy_14 : decode cX7_isAsLaidBy 14 = .ok (.iload_n 1, 1) := by decide +kernel
theorem dX7_isAsLaidBy_15 : decode cX7_isAsLaidBy 15 = .ok (.ifCond .eq 28, 3) := by decide +kernel
theorem dX7_isAsLaidBy_18 : decode cX7_isAsLaidBy 18 = .ok (.aload_n 0, 1) := by decide +kernel
theorem dX7_isAsLaidBy_19 : decode cX7_isAsLaidBy 19 = .ok (.iload_n 2, 1) := by decide +kernel
theorem dX7_isAsLaidBy_20 : decode cX7_isAsLaidBy 20 = .ok (.iconst 4, 1) := by decide +kernel
theorem dX7_isAsLaidBy_21 : decode cX7_isAsLaidBy 21 = .ok (.invokevirtual 80, 3) := by decide +kernel
theorem dX7_isAsLaidBy_24 : decode cX7_isAsLaidBy 24 = .ok (.aload_n 0, 1) := by decide +kernel
theorem dX7_isAsLaidBy_25 : decode cX7_isAsLaidBy 25 = .ok (.getfield 50, 3) := by decide +kernel
theorem dX7_isAsLaidBy_28 : decode cX7_isAsLaidBy 28 = .ok (.aload_n 0, 1) := by decide +kernel
theorem dX7_isAsLaidBy_29 : decode cX7_isAsLaidBy 29 = .ok (.iload_n 2, 1) := by decide +kernel
theorem dX7_isAsLaidBy_30 : decode cX7_isAsLaidBy 30 = .ok (.invokevirtual 72, 3) := by decide +kernel
theorem dX7_isAsLaidBy_33 : decode cX7_isAsLaidBy 33 = .ok (.iconst 4, 1) := by decide +kernel
theorem dX7_isAsLaidBy_34 : decode cX7_isAsLaidBy 34 = .ok (.iadd, 1) := by decide +kernel
theorem dX7_isAsLaidBy_35 : decode cX7_isAsLaidBy 35 = .ok (.iaload, 1) := by decide +kernel
theorem dX7_isAsLaidBy_36 : decode cX7_isAsLaidBy 36 = .ok (.if_icmp .ne 7, 3) := by decide +kernel
theorem dX7_isAsLaidBy_39 : decode cX7_isAsLaidBy 39 = .ok (.iconst 1, 1) := by decide +kernel
theorem dX7_isAsLaidBy_40 : decode cX7_isAsLaidBy 40 = .ok (.goto 4, 3) := by decide +kernel
theorem dX7_isAsLaidBy_43 : decode cX7_isAsLaidBy 43 = .ok (.iconst 0, 1) := by decide +kernel
theorem dX7_isAsLaidBy_44 : decode cX7_isAsLaidBy 44 = .ok (.istore_n 1, 1) := by decide +kernel
theorem dX7_isAsLaidBy_45 : decode cX7_isAsLaidBy 45 = .ok (.iinc 2 1, 3) := by decide +kernel
theorem dX7_isAsLaidBy_48 : decode cX7_isAsLaidBy 48 = .ok (.goto (-44), 3) := by decide +kernel
theorem dX7_isAsLaidBy_51 : decode cX7_isAsLaidBy 51 = .ok (.iload_n 1, 1) := by decide +kernel
theorem dX7_isAsLaidBy_52 : decode cX7_isAsLaidBy 52 = .ok (.ireturn, 1) := by decide +kernel
theorem dX7_period_0 : decode cX7_period 0 = .ok (.aload_n 0, 1) := by decide +kernel
theorem dX7_period_1 : decode cX7_period 1 = .ok (.invokevirtual 189, 3) := by decide +kernel
theorem dX7_period_4 : decode cX7_period 4 = .ok (.iconst 1, 1) := by decide +kernel
theorem dX7_period_5 : decode cX7_period 5 = .ok (.istore_n 1, 1) := by decide +kernel
theorem dX7_period_6 : decode cX7_period 6 = .ok (.aload_n 0, 1) := by decide +kernel
theorem dX7_period_7 : decode cX7_period 7 = .ok (.invokevirtual 167, 3) := by decide +kernel
theorem dX7_period_10 : decode cX7_period 10 = .ok (.istore_n 2, 1) := by decide +kernel
theorem dX7_period_11 : decode cX7_period 11 = .ok (.iload_n 1, 1) := by decide +kernel
theorem dX7_period_12 : decode cX7_period 12 = .ok (.sipush 300, 3) := by decide +kernel
theorem dX7_period_15 : decode cX7_period 15 = .ok (.if_icmp .gt 21, 3) := by decide +kernel
theorem dX7_period_18 : decode cX7_period 18 = .ok (.aload_n 0, 1) := by decide +kernel
theorem dX7_period_19 : decode cX7_period 19 = .ok (.invokevirtual 195, 3) := by decide +kernel
theorem dX7_period_22 : decode cX7_period 22 = .ok (.ifCond .ne 14, 3) := by decide +kernel
theorem dX7_period_25 : decode cX7_period 25 = .ok (.aload_n 0, 1) := by decide +kernel
theorem dX7_period_26 : decode cX7_period 26 = .ok (.invokevirtual 167, 3) := by decide +kernel
theorem dX7_period_29 : decode cX7_period 29 = .ok (.istore_n 2, 1) := by decide +kernel
theorem dX7_period_30 : decode cX7_period 30 = .ok (.iinc 1 1, 3) := by decide +kernel
theorem dX7_period_33 : decode cX7_period 33 = .ok (.goto (-22), 3) := by decide +kernel
theorem dX7_period_36 : decode cX7_period 36 = .ok (.aload_n 0, 1) := by decide +kernel
theorem dX7_period_37 : decode cX7_period 37 = .ok (.invokevirtual 192, 3) := by decide +kernel
theorem dX7_period_40 : decode cX7_period 40 = .ok (.iload_n 1, 1) := by decide +kernel
theorem dX7_period_41 : decode cX7_period 41 = .ok (.sipush 300, 3) := by decide +kernel
theorem dX7_period_44 : decode cX7_period 44 = .ok (.if_icmp .le 8, 3) := by decide +kernel
theorem dX7_period_47 : decode cX7_period 47 = .ok (.ldc 71, 2) := by decide +kernel
theorem dX7_period_49 : decode cX7_period 49 = .ok (.goto 4, 3) := by decide +kernel
theorem dX7_period_52 : decode cX7_period 52 = .ok (.iload_n 1, 1) := by decide +kernel
theorem dX7_period_53 : decode cX7_period 53 = .ok (.ireturn, 1) := by decide +kernel
theorem dX7_ticksMany_0 : decode cX7_ticksMany 0 = .ok (.iconst 0, 1) := by decide +kernel
theorem dX7_ticksMany_1 : decode cX7_ticksMany 1 = .ok (.istore_n 2, 1) := by decide +kernel
theorem dX7_ticksMany_2 : decode cX7_ticksMany 2 = .ok (.iload_n 2, 1) := by decide +kernel
theorem dX7_ticksMany_3 : decode cX7_ticksMany 3 = .ok (.iload_n 1, 1) := by decide +kernel
theorem dX7_ticksMany_4 : decode cX7_ticksMany 4 = .ok (.if_icmp .ge 14, 3) := by decide +kernel
theorem dX7_ticksMany_7 : decode cX7_ticksMany 7 = .ok (.aload_n 0, 1) := by decide +kernel
theorem dX7_ticksMany_8 : decode cX7_ticksMany 8 = .ok (.invokevirtual 167, 3) := by decide +kernel
theorem dX7_ticksMany_11 : decode cX7_ticksMany 11 = .ok (.istore_n 3, 1) := by decide +kernel
theorem dX7_ticksMany_12 : decode cX7_ticksMany 12 = .ok (.iinc 2 1, 3) := by decide +kernel
theorem dX7_ticksMany_15 : decode cX7_ticksMany 15 = .ok (.goto (-13), 3) := by decide +kernel
theorem dX7_ticksMany_18 : decode cX7_ticksMany 18 = .ok (.return_, 1) := by decide +kernel
theorem dX7_film_0 : decode cX7_film 0 = .ok (.aload_n 0, 1) := by decide +kernel
theorem dX7_film_1 : decode cX7_film 1 = .ok (.iload_n 1, 1) := by decide +kernel
theorem dX7_film_2 : decode cX7_film 2 = .ok (.invokevirtual 121, 3) := by decide +kernel
theorem dX7_film_5 : decode cX7_film 5 = .ok (.ifCond .eq 15, 3) := by decide +kernel
theorem dX7_film_8 : decode cX7_film 8 = .ok (.iload_n 2, 1) := by decide +kernel
theorem dX7_film_9 : decode cX7_film 9 = .ok (.i2l, 1) := by decide +kernel
theorem dX7_film_10 : decode cX7_film 10 = .ok (.lconst 1, 1) := by decide +kernel
theorem dX7_film_11 : decode cX7_film 11 = .ok (.ldc2_w 165, 3) := by decide +kernel
theorem dX7_film_14 : decode cX7_film 14 = .ok (.invokestatic 76, 3) := by decide +kernel
theorem dX7_film_17 : decode cX7_film 17 = .ok (.ifCond .ne 6, 3) := by decide +kernel
theorem dX7_film_20 : decode cX7_film 20 = .ok (.ldc 93, 2) := by decide +kernel
theorem dX7_film_22 : decode cX7_film 22 = .ok (.ireturn, 1) := by decide +kernel
theorem dX7_film_23 : decode cX7_film 23 = .ok (.aload_n 0, 1) := by decide +kernel
theorem dX7_film_24 : decode cX7_film 24 = .ok (.invokevirtual 189, 3) := by decide +kernel
theorem dX7_film_27 : decode cX7_film 27 = .ok (.aload_n 0, 1) := by decide +kernel
theorem dX7_film_28 : decode cX7_film 28 = .ok (.iload_n 2, 1) := by decide +kernel
theorem dX7_film_29 : decode cX7_film 29 = .ok (.invokevirtual 199, 3) := by decide +kernel
theorem dX7_film_32 : decode cX7_film 32 = .ok (.aload_n 0, 1) := by decide +kernel
theorem dX7_film_33 : decode cX7_film 33 = .ok (.iload_n 1, 1) := by decide +kernel
theorem dX7_film_34 : decode cX7_film 34 = .ok (.iconst 4, 1) := by decide +kernel
theorem dX7_film_35 : decode cX7_film 35 = .ok (.invokevirtual 80, 3) := by decide +kernel
theorem dX7_film_38 : decode cX7_film 38 = .ok (.aload_n 0, 1) := by decide +kernel
theorem dX7_film_39 : decode cX7_film 39 = .ok (.getfield 50, 3) := by decide +kernel
theorem dX7_film_42 : decode cX7_film 42 = .ok (.aload_n 0, 1) := by decide +kernel
theorem dX7_film_43 : decode cX7_film 43 = .ok (.iload_n 1, 1) := by decide +kernel
theorem dX7_film_44 : decode cX7_film 44 = .ok (.invokevirtual 72, 3) := by decide +kernel
theorem dX7_film_47 : decode cX7_film 47 = .ok (.iconst 4, 1) := by decide +kernel
theorem dX7_film_48 : decode cX7_film 48 = .ok (.iadd, 1) := by decide +kernel
theorem dX7_film_49 : decode cX7_film 49 = .ok (.iaload, 1) := by decide +kernel
theorem dX7_film_50 : decode cX7_film 50 = .ok (.invokestatic 115, 3) := by decide +kernel
theorem dX7_film_53 : decode cX7_film 53 = .ok (.istore_n 3, 1) := by decide +kernel
theorem dX7_film_54 : decode cX7_film 54 = .ok (.aload_n 0, 1) := by decide +kernel
theorem dX7_film_55 : decode cX7_film 55 = .ok (.invokevirtual 192, 3) := by decide +kernel
theorem dX7_film_58 : decode cX7_film 58 = .ok (.iload_n 3, 1) := by decide +kernel
theorem dX7_film_59 : decode cX7_film 59 = .ok (.ireturn, 1) := by decide +kernel
theorem dX7_litBehind_0 : decode cX7_litBehind 0 = .ok (.iload_n 1, 1) := by decide +kernel
theorem dX7_litBehind_1 : decode cX7_litBehind 1 = .ok (.istore_n 2, 1) := by decide +kernel
theorem dX7_litBehind_2 : decode cX7_litBehind 2 = .ok (.iload_n 2, 1) := by decide +kernel
theorem dX7_litBehind_3 : decode cX7_litBehind 3 = .ok (.aload_n 0, 1) := by decide +kernel
theorem dX7_litBehind_4 : decode cX7_litBehind 4 = .ok (.getfield 7, 3) := by decide +kernel
theorem dX7_litBehind_7 : decode cX7_litBehind 7 = .ok (.iconst 0, 1) := by decide +kernel
theorem dX7_litBehind_8 : decode cX7_litBehind 8 = .ok (.iaload, 1) := by decide +kernel
theorem dX7_litBehind_9 : decode cX7_litBehind 9 = .ok (.if_icmp .ge 17, 3) := by decide +kernel
theorem dX7_litBehind_12 : decode cX7_litBehind 12 = .ok (.aload_n 0, 1) := by decide +kernel
theorem dX7_litBehind_13 : decode cX7_litBehind 13 = .ok (.iload_n 2, 1) := by decide +kernel
theorem dX7_litBehind_14 : decode cX7_litBehind 14 = .ok (.invokevirtual 109, 3) := by decide +kernel
theorem dX7_litBehind_17 : decode cX7_litBehind 17 = .ok (.ifCond .ne 9, 3) := by decide +kernel
theorem dX7_litBehind_20 : decode cX7_litBehind 20 = .ok (.iinc 2 1, 3) := by decide +kernel
theorem dX7_litBehind_23 : decode cX7_litBehind 23 = .ok (.goto (-21), 3) := by decide +kernel
theorem dX7_litBehind_26 : decode cX7_litBehind 26 = .ok (.iload_n 2, 1) := by decide +kernel
theorem dX7_litBehind_27 : decode cX7_litBehind 27 = .ok (.ireturn, 1) := by decide +kernel
theorem dX7_basin_0 : decode cX7_basin 0 = .ok (.iload_n 1, 1) := by decide +kernel
theorem dX7_basin_1 : decode cX7_basin 1 = .ok (.invokestatic 186, 3) := by decide +kernel
theorem dX7_basin_4 : decode cX7_basin 4 = .ok (.ifCond .ne 6, 3) := by decide +kernel
theorem dX7_basin_7 : decode cX7_basin 7 = .ok (.ldc 93, 2) := by decide +kernel
theorem dX7_basin_9 : decode cX7_basin 9 = .ok (.ireturn, 1) := by decide +kernel
theorem dX7_basin_10 : decode cX7_basin 10 = .ok (.aload_n 0, 1) := by decide +kernel
theorem dX7_basin_11 : decode cX7_basin 11 = .ok (.iconst 0, 1) := by decide +kernel
theorem dX7_basin_12 : decode cX7_basin 12 = .ok (.invokevirtual 203, 3) := by decide +kernel
theorem dX7_basin_15 : decode cX7_basin 15 = .ok (.istore_n 2, 1) := by decide +kernel
theorem dX7_basin_16 : decode cX7_basin 16 = .ok (.aload_n 0, 1) := by decide +kernel
theorem dX7_basin_17 : decode cX7_basin 17 = .ok (.iload_n 2, 1) := by decide +kernel
theorem dX7_basin_18 : decode cX7_basin 18 = .ok (.iconst 1, 1) := by decide +kernel
theorem dX7_basin_19 : decode cX7_basin 19 = .ok (.iadd, 1) := by decide +kernel
theorem dX7_basin_20 : decode cX7_basin 20 = .ok (.invokevirtual 203, 3) := by decide +kernel
theorem dX7_basin_23 : decode cX7_basin 23 = .ok (.istore_n 3, 1) := by decide +kernel
theorem dX7_basin_24 : decode cX7_basin 24 = .ok (.iload_n 3, 1) := by decide +kernel
theorem dX7_basin_25 : decode cX7_basin 25 = .ok (.aload_n 0, 1) := by decide +kernel
theorem dX7_basin_26 : decode cX7_basin 26 = .ok (.getfield 7, 3) := by decide +kernel
theorem dX7_basin_29 : decode cX7_basin 29 = .ok (.iconst 0, 1) := by decide +kernel
theorem dX7_basin_30 : decode cX7_basin 30 = .ok (.iaload, 1) := by decide +kernel
theorem dX7_basin_31 : decode cX7_basin 31 = .ok (.if_icmp .lt 6, 3) := by decide +kernel
theorem dX7_basin_34 : decode cX7_basin 34 = .ok (.ldc 206, 2) := by decide +kernel
theorem dX7_basin_36 : decode cX7_basin 36 = .ok (.ireturn, 1) := by decide +kernel
theorem dX7_basin_37 : decode cX7_basin 37 = .ok (.aload_n 0, 1) := by decide +kernel
theorem dX7_basin_38 : decode cX7_basin 38 = .ok (.invokevirtual 189, 3) := by decide +kernel
theorem dX7_basin_41 : decode cX7_basin 41 = .ok (.iconst 0, 1) := by decide +kernel
theorem dX7_basin_42 : decode cX7_basin 42 = .ok (.istore 4, 2) := by decide +kernel
theorem dX7_basin_44 : decode cX7_basin 44 = .ok (.iconst 0, 1) := by decide +kernel
theorem dX7_basin_45 : decode cX7_basin 45 = .ok (.istore 5, 2) := by decide +kernel
theorem dX7_basin_47 : decode cX7_basin 47 = .ok (.iload 5, 2) := by decide +kernel
theorem dX7_basin_49 : decode cX7_basin 49 = .ok (.bipush 6, 2) := by decide +kernel
theorem dX7_basin_51 : decode cX7_basin 51 = .ok (.if_icmp .ge 93, 3) := by decide +kernel
theorem dX7_basin_54 : decode cX7_basin 54 = .ok (.iconst 0, 1) := by decide +kernel
theorem dX7_basin_55 : decode cX7_basin 55 = .ok (.istore 6, 2) := by decide +kernel
theorem dX7_basin_57 : decode cX7_basin 57 = .ok (.iload 6, 2) := by decide +kernel
theorem dX7_basin_59 : decode cX7_basin 59 = .ok (.bipush 6, 2) := by decide +kernel
theorem dX7_basin_61 : decode cX7_basin 61 = .ok (.if_icmp .ge 77, 3) := by decide +kernel
theorem dX7_basin_64 : decode cX7_basin 64 = .ok (.aload_n 0, 1) := by decide +kernel
theorem dX7_basin_65 : decode cX7_basin 65 = .ok (.getfield 7, 3) := by decide +kernel
theorem dX7_basin_68 : decode cX7_basin 68 = .ok (.aload_n 0, 1) := by decide +kernel
theorem dX7_basin_69 : decode cX7_basin 69 = .ok (.iload_n 2, 1) := by decide +kernel
theorem dX7_basin_70 : decode cX7_basin 70 = .ok (.invokevirtual 72, 3) := by decide +kernel
theorem dX7_basin_73 : decode cX7_basin 73 = .ok (.iconst 4, 1) := by decide +kernel
theorem dX7_basin_74 : decode cX7_basin 74 = .ok (.iadd, 1) := by decide +kernel
theorem dX7_basin_75 : decode cX7_basin 75 = .ok (.bipush 20, 2) := by decide +kernel
theorem dX7_basin_77 : decode cX7_basin 77 = .ok (.iload 5, 2) := by decide +kernel
theorem dX7_basin_79 : decode cX7_basin 79 = .ok (.imul, 1) := by decide +kernel
theorem dX7_basin_80 : decode cX7_basin 80 = .ok (.iastore, 1) := by decide +kernel
theorem dX7_basin_81 : decode cX7_basin 81 = .ok (.aload_n 0, 1) := by decide +kernel
theorem dX7_basin_82 : decode cX7_basin 82 = .ok (.getfield 7, 3) := by decide +kernel
theorem dX7_basin_85 : decode cX7_basin 85 = .ok (.aload_n 0, 1) := by decide +kernel
theorem dX7_basin_86 : decode cX7_basin 86 = .ok (.iload_n 3, 1) := by decide +kernel
theorem dX7_basin_87 : decode cX7_basin 87 = .ok (.invokevirtual 72, 3) := by decide +kernel
theorem dX7_basin_90 : decode cX7_basin 90 = .ok (.iconst 4, 1) := by decide +kernel
theorem dX7_basin_91 : decode cX7_basin 91 = .ok (.iadd, 1) := by decide +kernel
theorem dX7_basin_92 : decode cX7_basin 92 = .ok (.bipush 20, 2) := by decide +kernel
theorem dX7_basin_94 : decode cX7_basin 94 = .ok (.iload 6, 2) := by decide +kernel
theorem dX7_basin_96 : decode cX7_basin 96 = .ok (.imul, 1) := by decide +kernel
theorem dX7_basin_97 : decode cX7_basin 97 = .ok (.iastore, 1) := by decide +kernel
theorem dX7_basin_98 : decode cX7_basin 98 = .ok (.aload_n 0, 1) := by decide +kernel
theorem dX7_basin_99 : decode cX7_basin 99 = .ok (.bipush 30, 2) := by decide +kernel
theorem dX7_basin_101 : decode cX7_basin 101 = .ok (.invokevirtual 199, 3) := by decide +kernel
theorem dX7_basin_104 : decode cX7_basin 104 = .ok (.iload 4, 2) := by decide +kernel
theorem dX7_basin_106 : decode cX7_basin 106 = .ok (.aload_n 0, 1) := by decide +kernel
theorem dX7_basin_107 : decode cX7_basin 107 = .ok (.invokevirtual 180, 3) := by decide +kernel
theorem dX7_basin_110 : decode cX7_basin 110 = .ok (.i2l, 1) := by decide +kernel
theorem dX7_basin_111 : decode cX7_basin 111 = .ok (.lconst 0, 1) := by decide +kernel
theorem dX7_basin_112 : decode cX7_basin 112 = .ok (.iload_n 1, 1) := by decide +kernel
theorem dX7_basin_113 : decode cX7_basin 113 = .ok (.i2l, 1) := by decide +kernel
theorem dX7_basin_114 : decode cX7_basin 114 = .ok (.invokestatic 76, 3) := by decide +kernel
theorem dX7_basin_117 : decode cX7_basin 117 = .ok (.ifCond .eq 7, 3) := by decide +kernel
theorem dX7_basin_120 : decode cX7_basin 120 = .ok (.iconst 1, 1) := by decide +kernel
theorem dX7_basin_121 : decode cX7_basin 121 = .ok (.goto 4, 3) := by decide +kernel
theorem dX7_basin_124 : decode cX7_basin 124 = .ok (.iconst 0, 1) := by decide +kernel
theorem dX7_basin_125 : decode cX7_basin 125 = .ok (.iadd, 1) := by decide +kernel
theorem dX7_basin_126 : decode cX7_basin 126 = .ok (.istore 4, 2) := by decide +kernel
theorem dX7_basin_128 : decode cX7_basin 128 = .ok (.aload_n 0, 1) := by decide +kernel
theorem dX7_basin_129 : decode cX7_basin 129 = .ok (.invokevirtual 192, 3) := by decide +kernel
theorem dX7_basin_132 : decode cX7_basin 132 = .ok (.iinc 6 1, 3) := by decide +kernel
theorem dX7_basin_135 : decode cX7_basin 135 = .ok (.goto (-78), 3) := by decide +kernel
theorem dX7_basin_138 : decode cX7_basin 138 = .ok (.iinc 5 1, 3) := by decide +kernel
theorem dX7_basin_141 : decode cX7_basin 141 = .ok (.goto (-94), 3) := by decide +kernel
theorem dX7_basin_144 : decode cX7_basin 144 = .ok (.iload 4, 2) := by decide +kernel
theorem dX7_basin_146 : decode cX7_basin 146 = .ok (.ireturn, 1) := by decide +kernel
theorem dX7_quiet_0 : decode cX7_quiet 0 = .ok (.aload_n 0, 1) := by decide +kernel
theorem dX7_quiet_1 : decode cX7_quiet 1 = .ok (.iload_n 1, 1) := by decide +kernel
theorem dX7_quiet_2 : decode cX7_quiet 2 = .ok (.invokevirtual 121, 3) := by decide +kernel
theorem dX7_quiet_5 : decode cX7_quiet 5 = .ok (.ifCond .eq 13, 3) := by decide +kernel
theorem dX7_quiet_8 : decode cX7_quiet 8 = .ok (.iload_n 2, 1) := by decide +kernel
theorem dX7_quiet_9 : decode cX7_quiet 9 = .ok (.i2l, 1) := by decide +kernel
theorem dX7_quiet_10 : decode cX7_quiet 10 = .ok (.lconst 0, 1) := by decide +kernel
theorem dX7_quiet_11 : decode cX7_quiet 11 = .ok (.lconst 1, 1) := by decide +kernel
theorem dX7_quiet_12 : decode cX7_quiet 12 = .ok (.invokestatic 76, 3) := by decide +kernel
theorem dX7_quiet_15 : decode cX7_quiet 15 = .ok (.ifCond .ne 6, 3) := by decide +kernel
theorem dX7_quiet_18 : decode cX7_quiet 18 = .ok (.ldc 93, 2) := by decide +kernel
theorem dX7_quiet_20 : decode cX7_quiet 20 = .ok (.ireturn, 1) := by decide +kernel
theorem dX7_quiet_21 : decode cX7_quiet 21 = .ok (.aload_n 0, 1) := by decide +kernel
theorem dX7_quiet_22 : decode cX7_quiet 22 = .ok (.invokevirtual 189, 3) := by decide +kernel
theorem dX7_quiet_25 : decode cX7_quiet 25 = .ok (.aload_n 0, 1) := by decide +kernel
theorem dX7_quiet_26 : decode cX7_quiet 26 = .ok (.iload_n 1, 1) := by decide +kernel
theorem dX7_quiet_27 : decode cX7_quiet 27 = .ok (.iconst 1, 1) := by decide +kernel
theorem dX7_quiet_28 : decode cX7_quiet 28 = .ok (.invokevirtual 80, 3) := by decide +kernel
theorem dX7_quiet_31 : decode cX7_quiet 31 = .ok (.istore_n 3, 1) := by decide +kernel
theorem dX7_quiet_32 : decode cX7_quiet 32 = .ok (.aload_n 0, 1) := by decide +kernel
theorem dX7_quiet_33 : decode cX7_quiet 33 = .ok (.iload_n 1, 1) := by decide +kernel
theorem dX7_quiet_34 : decode cX7_quiet 34 = .ok (.iconst 2, 1) := by decide +kernel
theorem dX7_quiet_35 : decode cX7_quiet 35 = .ok (.invokevirtual 80, 3) := by decide +kernel
theorem dX7_quiet_38 : decode cX7_quiet 38 = .ok (.istore 4, 2) := by decide +kernel
theorem dX7_quiet_40 : decode cX7_quiet 40 = .ok (.iconst (-1), 1) := by decide +kernel
theorem dX7_quiet_41 : decode cX7_quiet 41 = .ok (.istore 5, 2) := by decide +kernel
theorem dX7_quiet_43 : decode cX7_quiet 43 = .ok (.iconst 0, 1) := by decide +kernel
theorem dX7_quiet_44 : decode cX7_quiet 44 = .ok (.istore 6, 2) := by decide +kernel
theorem dX7_quiet_46 : decode cX7_quiet 46 = .ok (.iconst 0, 1) := by decide +kernel
theorem dX7_quiet_47 : decode cX7_quiet 47 = .ok (.istore 7, 2) := by decide +kernel
theorem dX7_quiet_49 : decode cX7_quiet 49 = .ok (.iload_n 3, 1) := by decide +kernel
theorem dX7_quiet_50 : decode cX7_quiet 50 = .ok (.iconst 3, 1) := by decide +kernel
theorem dX7_quiet_51 : decode cX7_quiet 51 = .ok (.isub, 1) := by decide +kernel
theorem dX7_quiet_52 : decode cX7_quiet 52 = .ok (.istore 8, 2) := by decide +kernel
theorem dX7_quiet_54 : decode cX7_quiet 54 = .ok (.iload 8, 2) := by decide +kernel
theorem dX7_quiet_56 : decode cX7_quiet 56 = .ok (.iload_n 3, 1) := by decide +kernel
theorem dX7_quiet_57 : decode cX7_quiet 57 = .ok (.iconst 3, 1) := by decide +kernel
theorem dX7_quiet_58 : decode cX7_quiet 58 = .ok (.iadd, 1) := by decide +kernel
theorem dX7_quiet_59 : decode cX7_quiet 59 = .ok (.if_icmp .gt 144, 3) := by decide +kernel
theorem dX7_quiet_62 : decode cX7_quiet 62 = .ok (.iload 4, 2) := by decide +kernel
theorem dX7_quiet_64 : decode cX7_quiet 64 = .ok (.iconst 3, 1) := by decide +kernel
theorem dX7_quiet_65 : decode cX7_quiet 65 = .ok (.isub, 1) := by decide +kernel
theorem dX7_quiet_66 : decode cX7_quiet 66 = .ok (.istore 9, 2) := by decide +kernel
theorem dX7_quiet_68 : decode cX7_quiet 68 = .ok (.iload 9, 2) := by decide +kernel
theorem dX7_quiet_70 : decode cX7_quiet 70 = .ok (.iload 4, 2) := by decide +kernel
theorem dX7_quiet_72 : decode cX7_quiet 72 = .ok (.iconst 3, 1) := by decide +kernel
theorem dX7_quiet_73 : decode cX7_quiet 73 = .ok (.iadd, 1) := by decide +kernel
theorem dX7_quiet_74 : decode cX7_quiet 74 = .ok (.if_icmp .gt 123, 3) := by decide +kernel
theorem dX7_quiet_77 : decode cX7_quiet 77 = .ok (.iload 8, 2) := by decide +kernel
theorem dX7_quiet_79 : decode cX7_quiet 79 = .ok (.i2l, 1) := by decide +kernel
theorem dX7_quiet_80 : decode cX7_quiet 80 = .ok (.lconst 0, 1) := by decide +kernel
theorem dX7_quiet_81 : decode cX7_quiet 81 = .ok (.ldc2_w 207, 3) := by decide +kernel
theorem dX7_quiet_84 : decode cX7_quiet 84 = .ok (.invokestatic 76, 3) := by decide +kernel
theorem dX7_quiet_87 : decode cX7_quiet 87 = .ok (.ifCond .eq 104, 3) := by decide +kernel
theorem dX7_quiet_90 : decode cX7_quiet 90 = .ok (.iload 9, 2) := by decide +kernel
theorem dX7_quiet_92 : decode cX7_quiet 92 = .ok (.i2l, 1) := by decide +kernel
theorem dX7_quiet_93 : decode cX7_quiet 93 = .ok (.lconst 0, 1) := by decide +kernel
theorem dX7_quiet_94 : decode cX7_quiet 94 = .ok (.ldc2_w 207, 3) := by decide +kernel
theorem dX7_quiet_97 : decode cX7_quiet 97 = .ok (.invokestatic 76, 3) := by decide +kernel
theorem dX7_quiet_100 : decode cX7_quiet 100 = .ok (.ifCond .eq 91, 3) := by decide +kernel
theorem dX7_quiet_103 : decode cX7_quiet 103 = .ok (.aload_n 0, 1) := by decide +kernel
theorem dX7_quiet_104 : decode cX7_quiet 104 = .ok (.getfield 7, 3) := by decide +kernel
theorem dX7_quiet_107 : decode cX7_quiet 107 = .ok (.aload_n 0, 1) := by decide +kernel
theorem dX7_quiet_108 : decode cX7_quiet 108 = .ok (.iload_n 1, 1) := by decide +kernel
theorem dX7_quiet_109 : decode cX7_quiet 109 = .ok (.invokevirtual 72, 3) := by decide +kernel
theorem dX7_quiet_112 : decode cX7_quiet 112 = .ok (.iconst 1, 1) := by decide +kernel
theorem dX7_quiet_113 : decode cX7_quiet 113 = .ok (.iadd, 1) := by decide +kernel
theorem dX7_quiet_114 : decode cX7_quiet 114 = .ok (.iload 8, 2) := by decide +kernel
theorem dX7_quiet_116 : decode cX7_quiet 116 = .ok (.iastore, 1) := by decide +kernel
theorem dX7_quiet_117 : decode cX7_quiet 117 = .ok (.aload_n 0, 1) := by decide +kernel
theorem dX7_quiet_118 : decode cX7_quiet 118 = .ok (.getfield 7, 3) := by decide +kernel
theorem dX7_quiet_121 : decode cX7_quiet 121 = .ok (.aload_n 0, 1) := by decide +kernel
theorem dX7_quiet_122 : decode cX7_quiet 122 = .ok (.iload_n 1, 1) := by decide +kernel
theorem dX7_quiet_123 : decode cX7_quiet 123 = .ok (.invokevirtual 72, 3) := by decide +kernel
theorem dX7_quiet_126 : decode cX7_quiet 126 = .ok (.iconst 2, 1) := by decide +kernel
theorem dX7_quiet_127 : decode cX7_quiet 127 = .ok (.iadd, 1) := by decide +kernel
theorem dX7_quiet_128 : decode cX7_quiet 128 = .ok (.iload 9, 2) := by decide +kernel
theorem dX7_quiet_130 : decode cX7_quiet 130 = .ok (.iastore, 1) := by decide +kernel
theorem dX7_quiet_131 : decode cX7_quiet 131 = .ok (.aload_n 0, 1) := by decide +kernel
theorem dX7_quiet_132 : decode cX7_quiet 132 = .ok (.bipush 10, 2) := by decide +kernel
theorem dX7_quiet_134 : decode cX7_quiet 134 = .ok (.invokevirtual 199, 3) := by decide +kernel
theorem dX7_quiet_137 : decode cX7_quiet 137 = .ok (.aload_n 0, 1) := by decide +kernel
theorem dX7_quiet_138 : decode cX7_quiet 138 = .ok (.invokevirtual 180, 3) := by decide +kernel
theorem dX7_quiet_141 : decode cX7_quiet 141 = .ok (.istore 10, 2) := by decide +kernel
theorem dX7_quiet_143 : decode cX7_quiet 143 = .ok (.iload 10, 2) := by decide +kernel
theorem dX7_quiet_145 : decode cX7_quiet 145 = .ok (.ifCond .ge 8, 3) := by decide +kernel
theorem dX7_quiet_148 : decode cX7_quiet 148 = .ok (.bipush 120, 2) := by decide +kernel
theorem dX7_quiet_150 : decode cX7_quiet 150 = .ok (.goto 5, 3) := by decide +kernel
theorem dX7_quiet_153 : decode cX7_quiet 153 = .ok (.iload 10, 2) := by decide +kernel
theorem dX7_quiet_155 : decode cX7_quiet 155 = .ok (.istore 11, 2) := by decide +kernel
theorem dX7_quiet_157 : decode cX7_quiet 157 = .ok (.iload 5, 2) := by decide +kernel
theorem dX7_quiet_159 : decode cX7_quiet 159 = .ok (.ifCond .lt 10, 3) := by decide +kernel
theorem dX7_quiet_162 : decode cX7_quiet 162 = .ok (.iload 11, 2) := by decide +kernel
theorem dX7_quiet_164 : decode cX7_quiet 164 = .ok (.iload 6, 2) := by decide +kernel
theorem dX7_quiet_166 : decode cX7_quiet 166 = .ok (.if_icmp .ge 21, 3) := by decide +kernel
theorem dX7_quiet_169 : decode cX7_quiet 169 = .ok (.bipush 100, 2) := by decide +kernel
theorem dX7_quiet_171 : decode cX7_quiet 171 = .ok (.iload 8, 2) := by decide +kernel
theorem dX7_quiet_173 : decode cX7_quiet 173 = .ok (.imul, 1) := by decide +kernel
theorem dX7_quiet_174 : decode cX7_quiet 174 = .ok (.iload 9, 2) := by decide +kernel
theorem dX7_quiet_176 : decode cX7_quiet 176 = .ok (.iadd, 1) := by decide +kernel
theorem dX7_quiet_177 : decode cX7_quiet 177 = .ok (.istore 5, 2) := by decide +kernel
theorem dX7_quiet_179 : decode cX7_quiet 179 = .ok (.iload 11, 2) := by decide +kernel
theorem dX7_quiet_181 : decode cX7_quiet 181 = .ok (.istore 6, 2) := by decide +kernel
theorem dX7_quiet_183 : decode cX7_quiet 183 = .ok (.iload 10, 2) := by decide +kernel
theorem dX7_quiet_185 : decode cX7_quiet 185 = .ok (.istore 7, 2) := by decide +kernel
theorem dX7_quiet_187 : decode cX7_quiet 187 = .ok (.aload_n 0, 1) := by decide +kernel
theorem dX7_quiet_188 : decode cX7_quiet 188 = .ok (.invokevirtual 192, 3) := by decide +kernel
theorem dX7_quiet_191 : decode cX7_quiet 191 = .ok (.iinc 9 1, 3) := by decide +kernel
theorem dX7_quiet_194 : decode cX7_quiet 194 = .ok (.goto (-126), 3) := by decide +kernel
theorem dX7_quiet_197 : decode cX7_quiet 197 = .ok (.iinc 8 1, 3) := by decide +kernel
theorem dX7_quiet_200 : decode cX7_quiet 200 = .ok (.goto (-146), 3) := by decide +kernel
theorem dX7_quiet_203 : decode cX7_quiet 203 = .ok (.iload_n 2, 1) := by decide +kernel
theorem dX7_quiet_204 : decode cX7_quiet 204 = .ok (.iconst 1, 1) := by decide +kernel
theorem dX7_quiet_205 : decode cX7_quiet 205 = .ok (.if_icmp .ne 8, 3) := by decide +kernel
theorem dX7_quiet_208 : decode cX7_quiet 208 = .ok (.iload 5, 2) := by decide +kernel
theorem dX7_quiet_210 : decode cX7_quiet 210 = .ok (.goto 8, 3) := by decide +kernel
theorem dX7_quiet_213 : decode cX7_quiet 213 = .ok (.iload 7, 2) := by decide +kernel
theorem dX7_quiet_215 : decode cX7_quiet 215 = .ok (.invokestatic 183, 3) := by decide +kernel
theorem dX7_quiet_218 : decode cX7_quiet 218 = .ok (.ireturn, 1) := by decide +kernel
theorem dX7_feed_0 : decode cX7_feed 0 = .ok (.aload_n 0, 1) := by decide +kernel
theorem dX7_feed_1 : decode cX7_feed 1 = .ok (.getfield 209, 3) := by decide +kernel
theorem dX7_feed_4 : decode cX7_feed 4 = .ok (.bipush 12, 2) := by decide +kernel
theorem dX7_feed_6 : decode cX7_feed 6 = .ok (.iadd, 1) := by decide +kernel
theorem dX7_feed_7 : decode cX7_feed 7 = .ok (.bipush 96, 2) := by decide +kernel
theorem dX7_feed_9 : decode cX7_feed 9 = .ok (.if_icmp .le 6, 3) := by decide +kernel
theorem dX7_feed_12 : decode cX7_feed 12 = .ok (.ldc 94, 2) := by decide +kernel
theorem dX7_feed_14 : decode cX7_feed 14 = .ok (.ireturn, 1) := by decide +kernel
theorem dX7_feed_15 : decode cX7_feed 15 = .ok (.iconst 0, 1) := by decide +kernel
theorem dX7_feed_16 : decode cX7_feed 16 = .ok (.istore 4, 2) := by decide +kernel
theorem dX7_feed_18 : decode cX7_feed 18 = .ok (.iload 4, 2) := by decide +kernel
theorem dX7_feed_20 : decode cX7_feed 20 = .ok (.bipush 12, 2) := by decide +kernel
theorem dX7_feed_22 : decode cX7_feed 22 = .ok (.if_icmp .ge 69, 3) := by decide +kernel
theorem dX7_feed_25 : decode cX7_feed 25 = .ok (.iload 4, 2) := by decide +kernel
theorem dX7_feed_27 : decode cX7_feed 27 = .ok (.iconst 4, 1) := by decide +kernel
theorem dX7_feed_28 : decode cX7_feed 28 = .ok (.if_icmp .ge 7, 3) := by decide +kernel
theorem dX7_feed_31 : decode cX7_feed 31 = .ok (.iload_n 1, 1) := by decide +kernel
theorem dX7_feed_32 : decode cX7_feed 32 = .ok (.goto 15, 3) := by decide +kernel
theorem dX7_feed_35 : decode cX7_feed 35 = .ok (.iload 4, 2) := by decide +kernel
theorem dX7_feed_37 : decode cX7_feed 37 = .ok (.bipush 8, 2) := by decide +kernel
theorem dX7_feed_39 : decode cX7_feed 39 = .ok (.if_icmp .ge 7, 3) := by decide +kernel
theorem dX7_feed_42 : decode cX7_feed 42 = .ok (.iload_n 2, 1) := by decide +kernel
theorem dX7_feed_43 : decode cX7_feed 43 = .ok (.goto 4, 3) := by decide +kernel
theorem dX7_feed_46 : decode cX7_feed 46 = .ok (.iload_n 3, 1) := by decide +kernel
theorem dX7_feed_47 : decode cX7_feed 47 = .ok (.istore 5, 2) := by decide +kernel
theorem dX7_feed_49 : decode cX7_feed 49 = .ok (.aload_n 0, 1) := by decide +kernel
theorem dX7_feed_50 : decode cX7_feed 50 = .ok (.getfield 53, 3) := by decide +kernel
theorem dX7_feed_53 : decode cX7_feed 53 = .ok (.aload_n 0, 1) := by decide +kernel
theorem dX7_feed_54 : decode cX7_feed 54 = .ok (.getfield 209, 3) := by decide +kernel
theorem dX7_feed_57 : decode cX7_feed 57 = .ok (.iload 5, 2) := by decide +kernel
theorem dX7_feed_59 : decode cX7_feed 59 = .ok (.bipush 24, 2) := by decide +kernel
theorem dX7_feed_61 : decode cX7_feed 61 = .ok (.bipush 8, 2) := by decide +kernel
theorem dX7_feed_63 : decode cX7_feed 63 = .ok (.iload 4, 2) := by decide +kernel
theorem dX7_feed_65 : decode cX7_feed 65 = .ok (.iconst 4, 1) := by decide +kernel
theorem dX7_feed_66 : decode cX7_feed 66 = .ok (.irem, 1) := by decide +kernel
theorem dX7_feed_67 : decode cX7_feed 67 = .ok (.imul, 1) := by decide +kernel
theorem dX7_feed_68 : decode cX7_feed 68 = .ok (.isub, 1) := by decide +kernel
theorem dX7_feed_69 : decode cX7_feed 69 = .ok (.ishr, 1) := by decide +kernel
theorem dX7_feed_70 : decode cX7_feed 70 = .ok (.sipush 255, 3) := by decide +kernel
theorem dX7_feed_73 : decode cX7_feed 73 = .ok (.iand, 1) := by decide +kernel
theorem dX7_feed_74 : decode cX7_feed 74 = .ok (.iastore, 1) := by decide +kernel
theorem dX7_feed_75 : decode cX7_feed 75 = .ok (.aload_n 0, 1) := by decide +kernel
theorem dX7_feed_76 : decode cX7_feed 76 = .ok (.dup, 1) := by decide +kernel
theorem dX7_feed_77 : decode cX7_feed 77 = .ok (.getfield 209, 3) := by decide +kernel
theorem dX7_feed_80 : decode cX7_feed 80 = .ok (.iconst 1, 1) := by decide +kernel
theorem dX7_feed_81 : decode cX7_feed 81 = .ok (.iadd, 1) := by decide +kernel
theorem dX7_feed_82 : decode cX7_feed 82 = .ok (.putfield 209, 3) := by decide +kernel
theorem dX7_feed_85 : decode cX7_feed 85 = .ok (.iinc 4 1, 3) := by decide +kernel
theorem dX7_feed_88 : decode cX7_feed 88 = .ok (.goto (-70), 3) := by decide +kernel
theorem dX7_feed_91 : decode cX7_feed 91 = .ok (.aload_n 0, 1) := by decide +kernel
theorem dX7_feed_92 : decode cX7_feed 92 = .ok (.getfield 209, 3) := by decide +kernel
theorem dX7_feed_95 : decode cX7_feed 95 = .ok (.ireturn, 1) := by decide +kernel
theorem dX7_trim_0 : decode cX7_trim 0 = .ok (.iload_n 1, 1) := by decide +kernel
theorem dX7_trim_1 : decode cX7_trim 1 = .ok (.i2l, 1) := by decide +kernel
theorem dX7_trim_2 : decode cX7_trim 2 = .ok (.lconst 0, 1) := by decide +kernel
theorem dX7_trim_3 : decode cX7_trim 3 = .ok (.aload_n 0, 1) := by decide +kernel
theorem dX7_trim_4 : decode cX7_trim 4 = .ok (.getfield 209, 3) := by decide +kernel
theorem dX7_trim_7 : decode cX7_trim 7 = .ok (.i2l, 1) := by decide +kernel
theorem dX7_trim_8 : decode cX7_trim 8 = .ok (.invokestatic 76, 3) := by decide +kernel
theorem dX7_trim_11 : decode cX7_trim 11 = .ok (.ifCond .ne 6, 3) := by decide +kernel
theorem dX7_trim_14 : decode cX7_trim 14 = .ok (.ldc 93, 2) := by decide +kernel
theorem dX7_trim_16 : decode cX7_trim 16 = .ok (.ireturn, 1) := by decide +kernel
theorem dX7_trim_17 : decode cX7_trim 17 = .ok (.aload_n 0, 1) := by decide +kernel
theorem dX7_trim_18 : decode cX7_trim 18 = .ok (.iload_n 1, 1) := by decide +kernel
theorem dX7_trim_19 : decode cX7_trim 19 = .ok (.putfield 209, 3) := by decide +kernel
theorem dX7_trim_22 : decode cX7_trim 22 = .ok (.iload_n 1, 1) := by decide +kernel
theorem dX7_trim_23 : decode cX7_trim 23 = .ok (.ireturn, 1) := by decide +kernel
theorem dX7_isLetter_0 : decode cX7_isLetter 0 = .ok (.iload_n 1, 1) := by decide +kernel
theorem dX7_isLetter_1 : decode cX7_isLetter 1 = .ok (.aload_n 0, 1) := by decide +kernel
theorem dX7_isLetter_2 : decode cX7_isLetter 2 = .ok (.getfield 209, 3) := by decide +kernel
theorem dX7_isLetter_5 : decode cX7_isLetter 5 = .ok (.if_icmp .ge 26, 3) := by decide +kernel
theorem dX7_isLetter_8 : decode cX7_isLetter 8 = .ok (.aload_n 0, 1) := by decide +kernel
theorem dX7_isLetter_9 : decode cX7_isLetter 9 = .ok (.getfield 53, 3) := by decide +kernel
theorem dX7_isLetter_12 : decode cX7_isLetter 12 = .ok (.iload_n 1, 1) := by decide +kernel
theorem dX7_isLetter_13 : decode cX7_isLetter 13 = .ok (.iaload, 1) := by decide +kernel
theorem dX7_isLetter_14 : decode cX7_isLetter 14 = .ok (.i2l, 1) := by decide +kernel
theorem dX7_isLetter_15 : decode cX7_isLetter 15 = .ok (.ldc2_w 212, 3) := by decide +kernel
theorem dX7_isLetter_18 : decode cX7_isLetter 18 = .ok (.ldc2_w 214, 3) := by decide +kernel
theorem dX7_isLetter_21 : decode cX7_isLetter 21 = .ok (.invokestatic 76, 3) := by decide +kernel
theorem dX7_isLetter_24 : decode cX7_isLetter 24 = .ok (.ifCond .eq 7, 3) := by decide +kernel
theorem dX7_isLetter_27 : decode cX7_isLetter 27 = .ok (.iconst 1, 1) := by decide +kernel
theorem dX7_isLetter_28 : decode cX7_isLetter 28 = .ok (.goto 4, 3) := by decide +kernel
theorem dX7_isLetter_31 : decode cX7_isLetter 31 = .ok (.iconst 0, 1) := by decide +kernel
theorem dX7_isLetter_32 : decode cX7_isLetter 32 = .ok (.ireturn, 1) := by decide +kernel
theorem dX7_isDigit_0 : decode cX7_isDigit 0 = .ok (.iload_n 1, 1) := by decide +kernel
theorem dX7_isDigit_1 : decode cX7_isDigit 1 = .ok (.aload_n 0, 1) := by decide +kernel
theorem dX7_isDigit_2 : decode cX7_isDigit 2 = .ok (.getfield 209, 3) := by decide +kernel
theorem dX7_isDigit_5 : decode cX7_isDigit 5 = .ok (.if_icmp .ge 26, 3) := by decide +kernel
theorem dX7_isDigit_8 : decode cX7_isDigit 8 = .ok (.aload_n 0, 1) := by decide +kernel
theorem dX7_isDigit_9 : decode cX7_isDigit 9 = .ok (.getfield 53, 3) := by decide +kernel
theorem dX7_isDigit_12 : decode cX7_isDigit 12 = .ok (.iload_n 1, 1) := by decide +kernel
theorem dX7_isDigit_13 : decode cX7_isDigit 13 = .ok (.iaload, 1) := by decide +kernel
theorem dX7_isDigit_14 : decode cX7_isDigit 14 = .ok (.i2l, 1) := by decide +kernel
theorem dX7_isDigit_15 : decode cX7_isDigit 15 = .ok (.ldc2_w 216, 3) := by decide +kernel
theorem dX7_isDigit_18 : decode cX7_isDigit 18 = .ok (.ldc2_w 218, 3) := by decide +kernel
theorem dX7_isDigit_21 : decode cX7_isDigit 21 = .ok (.invokestatic 76, 3) := by decide +kernel
theorem dX7_isDigit_24 : decode cX7_isDigit 24 = .ok (.ifCond .eq 7, 3) := by decide +kernel
theorem dX7_isDigit_27 : decode cX7_isDigit 27 = .ok (.iconst 1, 1) := by decide +kernel
theorem dX7_isDigit_28 : decode cX7_isDigit 28 = .ok (.goto 4, 3) := by decide +kernel
theorem dX7_isDigit_31 : decode cX7_isDigit 31 = .ok (.iconst 0, 1) := by decide +kernel
theorem dX7_isDigit_32 : decode cX7_isDigit 32 = .ok (.ireturn, 1) := by decide +kernel
theorem dX7_nextToken_0 : decode cX7_nextToken 0 = .ok (.aload_n 0, 1) := by decide +kernel
theorem dX7_nextToken_1 : decode cX7_nextToken 1 = .ok (.getfield 220, 3) := by decide +kernel
theorem dX7_nextToken_4 : decode cX7_nextToken 4 = .ok (.ifCond .le 23, 3) := by decide +kernel
theorem dX7_nextToken_7 : decode cX7_nextToken 7 = .ok (.aload_n 0, 1) := by decide +kernel
theorem dX7_nextToken_8 : decode cX7_nextToken 8 = .ok (.getfield 223, 3) := by decide +kernel
theorem dX7_nextToken_11 : decode cX7_nextToken 11 = .ok (.iconst 1, 1) := by decide +kernel
theorem dX7_nextToken_12 : decode cX7_nextToken 12 = .ok (.if_icmp .eq 11, 3) := by decide +kernel
theorem dX7_nextToken_15 : decode cX7_nextToken 15 = .ok (.aload_n 0, 1) := by decide +kernel
theorem dX7_nextToken_16 : decode cX7_nextToken 16 = .ok (.getfield 223, 3) := by decide +kernel
theorem dX7_nextToken_19 : decode cX7_nextToken 19 = .ok (.iconst 2, 1) := by decide +kernel
theorem dX7_nextToken_20 : decode cX7_nextToken 20 = .ok (.if_icmp .ne 7, 3) := by decide +kernel
theorem dX7_nextToken_23 : decode cX7_nextToken 23 = .ok (.iconst 1, 1) := by decide +kernel
theorem dX7_nextToken_24 : decode cX7_nextToken 24 = .ok (.goto 4, 3) := by decide +kernel
theorem dX7_nextToken_27 : decode cX7_nextToken 27 = .ok (.iconst 0, 1) := by decide +kernel
theorem dX7_nextToken_28 : decode cX7_nextToken 28 = .ok (.istore_n 1, 1) := by decide +kernel
theorem dX7_nextToken_29 : decode cX7_nextToken 29 = .ok (.aload_n 0, 1) := by decide +kernel
theorem dX7_nextToken_30 : decode cX7_nextToken 30 = .ok (.getfield 220, 3) := by decide +kernel
theorem dX7_nextToken_33 : decode cX7_nextToken 33 = .ok (.istore_n 2, 1) := by decide +kernel
theorem dX7_nextToken_34 : decode cX7_nextToken 34 = .ok (.aload_n 0, 1) := by decide +kernel
theorem dX7_nextToken_35 : decode cX7_nextToken 35 = .ok (.getfield 220, 3) := by decide +kernel
theorem dX7_nextToken_38 : decode cX7_nextToken 38 = .ok (.aload_n 0, 1) := by decide +kernel
theorem dX7_nextToken_39 : decode cX7_nextToken 39 = .ok (.getfield 209, 3) := by decide +kernel
theorem dX7_nextToken_42 : decode cX7_nextToken 42 = .ok (.if_icmp .ge 30, 3) := by decide +kernel
theorem dX7_nextToken_45 : decode cX7_nextToken 45 = .ok (.aload_n 0, 1) := by decide +kernel
theorem dX7_nextToken_46 : decode cX7_nextToken 46 = .ok (.getfield 53, 3) := by decide +kernel
theorem dX7_nextToken_49 : decode cX7_nextToken 49 = .ok (.aload_n 0, 1) := by decide +kernel
theorem dX7_nextToken_50 : decode cX7_nextToken 50 = .ok (.getfield 220, 3) := by decide +kernel
theorem dX7_nextToken_53 : decode cX7_nextToken 53 = .ok (.iaload, 1) := by decide +kernel
theorem dX7_nextToken_54 : decode cX7_nextToken 54 = .ok (.bipush 32, 2) := by decide +kernel
theorem dX7_nextToken_56 : decode cX7_nextToken 56 = .ok (.if_icmp .ne 16, 3) := by decide +kernel
theorem dX7_nextToken_59 : decode cX7_nextToken 59 = .ok (.aload_n 0, 1) := by decide +kernel
theorem dX7_nextToken_60 : decode cX7_nextToken 60 = .ok (.dup, 1) := by decide +kernel
theorem dX7_nextToken_61 : decode cX7_nextToken 61 = .ok (.getfield 220, 3) := by decide +kernel
theorem dX7_nextToken_64 : decode cX7_nextToken 64 = .ok (.iconst 1, 1) := by decide +kernel
theorem dX7_nextToken_65 : decode cX7_nextToken 65 = .ok (.iadd, 1) := by decide +kernel
theorem dX7_nextToken_66 : decode cX7_nextToken 66 = .ok (.putfield 220, 3) := by decide +kernel
theorem dX7_nextToken_69 : decode cX7_nextToken 69 = .ok (.goto (-35), 3) := by decide +kernel
theorem dX7_nextToken_72 : decode cX7_nextToken 72 = .ok (.iload_n 1, 1) := by decide +kernel
theorem dX7_nextToken_73 : decode cX7_nextToken 73 = .ok (.ifCond .eq 15, 3) := by decide +kernel
theorem dX7_nextToken_76 : decode cX7_nextToken 76 = .ok (.iload_n 2, 1) := by decide +kernel
theorem dX7_nextToken_77 : decode cX7_nextToken 77 = .ok (.aload_n 0, 1) := by decide +kernel
theorem dX7_nextToken_78 : decode cX7_nextToken 78 = .ok (.getfield 220, 3) := by decide +kernel
theorem dX7_nextToken_81 : decode cX7_nextToken 81 = .ok (.if_icmp .ne 7, 3) := by decide +kernel
theorem dX7_nextToken_84 : decode cX7_nextToken 84 = .ok (.iconst 1, 1) := by decide +kernel
theorem dX7_nextToken_85 : decode cX7_nextToken 85 = .ok (.goto 4, 3) := by decide +kernel
theorem dX7_nextToken_88 : decode cX7_nextToken 88 = .ok (.iconst 0, 1) := by decide +kernel
theorem dX7_nextToken_89 : decode cX7_nextToken 89 = .ok (.istore_n 1, 1) := by decide +kernel
theorem dX7_nextToken_90 : decode cX7_nextToken 90 = .ok (.aload_n 0, 1) := by decide +kernel
theorem dX7_nextToken_91 : decode cX7_nextToken 91 = .ok (.aload_n 0, 1) := by decide +kernel
theorem dX7_nextToken_92 : decode cX7_nextToken 92 = .ok (.getfield 220, 3) := by decide +kernel
theorem dX7_nextToken_95 : decode cX7_nextToken 95 = .ok (.putfield 226, 3) := by decide +kernel
theorem dX7_nextToken_98 : decode cX7_nextToken 98 = .ok (.aload_n 0, 1) := by decide +kernel
theorem dX7_nextToken_99 : decode cX7_nextToken 99 = .ok (.getfield 226, 3) := by decide +kernel
theorem dX7_nextToken_102 : decode cX7_nextToken 102 = .ok (.aload_n 0, 1) := by decide +kernel
theorem dX7_nextToken_103 : decode cX7_nextToken 103 = .ok (.getfield 209, 3) := by decide +kernel
theorem dX7_nextToken_106 : decode cX7_nextToken 106 = .ok (.if_icmp .ne 11, 3) := by decide +kernel
theorem dX7_nextToken_109 : decode cX7_nextToken 109 = .ok (.aload_n 0, 1) := by decide +kernel
theorem dX7_nextToken_110 : decode cX7_nextToken 110 = .ok (.iconst 0, 1) := by decide +kernel
theorem dX7_nextToken_111 : decode cX7_nextToken 111 = .ok (.putfield 223, 3) := by decide +kernel
theorem dX7_nextToken_114 : decode cX7_nextToken 114 = .ok (.goto 225, 3) := by decide +kernel
theorem dX7_nextToken_117 : decode cX7_nextToken 117 = .ok (.aload_n 0, 1) := by decide +kernel
theorem dX7_nextToken_118 : decode cX7_nextToken 118 = .ok (.aload_n 0, 1) := by decide +kernel
theorem dX7_nextToken_119 : decode cX7_nextToken 119 = .ok (.getfield 226, 3) := by decide +kernel
theorem dX7_nextToken_122 : decode cX7_nextToken 122 = .ok (.invokevirtual 229, 3) := by decide +kernel
theorem dX7_nextToken_125 : decode cX7_nextToken 125 = .ok (.ifCond .eq 73, 3) := by decide +kernel
theorem dX7_nextToken_128 : decode cX7_nextToken 128 = .ok (.aload_n 0, 1) := by decide +kernel
theorem dX7_nextToken_129 : decode cX7_nextToken 129 = .ok (.aload_n 0, 1) := by decide +kernel
theorem dX7_nextToken_130 : decode cX7_nextToken 130 = .ok (.getfield 220, 3) := by decide +kernel
theorem dX7_nextToken_133 : decode cX7_nextToken 133 = .ok (.invokevirtual 229, 3) := by decide +kernel
theorem dX7_nextToken_136 : decode cX7_nextToken 136 = .ok (.ifCond .eq 16, 3) := by decide +kernel
theorem dX7_nextToken_139 : decode cX7_nextToken 139 = .ok (.aload_n 0, 1) := by decide +kernel
theorem dX7_nextToken_140 : decode cX7_nextToken 140 = .ok (.dup, 1) := by decide +kernel
theorem dX7_nextToken_141 : decode cX7_nextToken 141 = .ok (.getfield 220, 3) := by decide +kernel
theorem dX7_nextToken_144 : decode cX7_nextToken 144 = .ok (.iconst 1, 1) := by decide +kernel
theorem dX7_nextToken_145 : decode cX7_nextToken 145 = .ok (.iadd, 1) := by decide +kernel
theorem dX7_nextToken_146 : decode cX7_nextToken 146 = .ok (.putfield 220, 3) := by decide +kernel
theorem dX7_nextToken_149 : decode cX7_nextToken 149 = .ok (.goto (-21), 3) := by decide +kernel
theorem dX7_nextToken_152 : decode cX7_nextToken 152 = .ok (.aload_n 0, 1) := by decide +kernel
theorem dX7_nextToken_153 : decode cX7_nextToken 153 = .ok (.iload_n 1, 1) := by decide +kernel
theorem dX7_nextToken_154 : decode cX7_nextToken 154 = .ok (.ifCond .eq 7, 3) := by decide +kernel
theorem dX7_nextToken_157 : decode cX7_nextToken 157 = .ok (.iconst 4, 1) := by decide +kernel
theorem dX7_nextToken_158 : decode cX7_nextToken 158 = .ok (.goto 4, 3) := by decide +kernel
theorem dX7_nextToken_161 : decode cX7_nextToken 161 = .ok (.iconst 1, 1) := by decide +kernel
theorem dX7_nextToken_162 : decode cX7_nextToken 162 = .ok (.putfield 223, 3) := by decide +kernel
theorem dX7_nextToken_165 : decode cX7_nextToken 165 = .ok (.aload_n 0, 1) := by decide +kernel
theorem dX7_nextToken_166 : decode cX7_nextToken 166 = .ok (.aload_n 0, 1) := by decide +kernel
theorem dX7_nextToken_167 : decode cX7_nextToken 167 = .ok (.getfield 220, 3) := by decide +kernel
theorem dX7_nextToken_170 : decode cX7_nextToken 170 = .ok (.aload_n 0, 1) := by decide +kernel
theorem dX7_nextToken_171 : decode cX7_nextToken 171 = .ok (.getfield 226, 3) := by decide +kernel
theorem dX7_nextToken_174 : decode cX7_nextToken 174 = .ok (.isub, 1) := by decide +kernel
theorem dX7_nextToken_175 : decode cX7_nextToken 175 = .ok (.iconst 1, 1) := by decide +kernel
theorem dX7_nextToken_176 : decode cX7_nextToken 176 = .ok (.if_icmp .ne 15, 3) := by decide +kernel
theorem dX7_nextToken_179 : decode cX7_nextToken 179 = .ok (.aload_n 0, 1) := by decide +kernel
theorem dX7_nextToken_180 : decode cX7_nextToken 180 = .ok (.getfield 53, 3) := by decide +kernel
theorem dX7_nextToken_183 : decode cX7_nextToken 183 = .ok (.aload_n 0, 1) := by decide +kernel
theorem dX7_nextToken_184 : decode cX7_nextToken 184 = .ok (.getfield 226, 3) := by decide +kernel
theorem dX7_nextToken_187 : decode cX7_nextToken 187 = .ok (.iaload, 1) := by decide +kernel
theorem dX7_nextToken_188 : decode cX7_nextToken 188 = .ok (.goto 4, 3) := by decide +kernel
theorem dX7_nextToken_191 : decode cX7_nextToken 191 = .ok (.iconst 0, 1) := by decide +kernel
theorem dX7_nextToken_192 : decode cX7_nextToken 192 = .ok (.putfield 232, 3) := by decide +kernel
theorem dX7_nextToken_195 : decode cX7_nextToken 195 = .ok (.goto 144, 3) := by decide +kernel
theorem dX7_nextToken_198 : decode cX7_nextToken 198 = .ok (.aload_n 0, 1) := by decide +kernel
theorem dX7_nextToken_199 : decode cX7_nextToken 199 = .ok (.aload_n 0, 1) := by decide +kernel
theorem dX7_nextToken_200 : decode cX7_nextToken 200 = .ok (.getfield 226, 3) := by decide +kernel
theorem dX7_nextToken_203 : decode cX7_nextToken 203 = .ok (.invokevirtual 235, 3) := by decide +kernel
theorem dX7_nextToken_206 : decode cX7_nextToken 206 = .ok (.ifCond .eq 105, 3) := by decide +kernel
theorem dX7_nextToken_209 : decode cX7_nextToken 209 = .ok (.aload_n 0, 1) := by decide +kernel
theorem dX7_nextToken_210 : decode cX7_nextToken 210 = .ok (.iconst 0, 1) := by decide +kernel
theorem dX7_nextToken_211 : decode cX7_nextToken 211 = .ok (.putfield 238, 3) := by decide +kernel
theorem dX7_nextToken_214 : decode cX7_nextToken 214 = .ok (.aload_n 0, 1) := by decide +kernel
theorem dX7_nextToken_215 : decode cX7_nextToken 215 = .ok (.aload_n 0, 1) := by decide +kernel
theorem dX7_nextToken_216 : decode cX7_nextToken 216 = .ok (.getfield 220, 3) := by decide +kernel
theorem dX7_nextToken_219 : decode cX7_nextToken 219 = .ok (.invokevirtual 235, 3) := by decide +kernel
theorem dX7_nextToken_222 : decode cX7_nextToken 222 = .ok (.ifCond .eq 60, 3) := by decide +kernel
theorem dX7_nextToken_225 : decode cX7_nextToken 225 = .ok (.aload_n 0, 1) := by decide +kernel
theorem dX7_nextToken_226 : decode cX7_nextToken 226 = .ok (.aload_n 0, 1) := by decide +kernel
theorem dX7_nextToken_227 : decode cX7_nextToken 227 = .ok (.getfield 220, 3) := by decide +kernel
theorem dX7_nextToken_230 : decode cX7_nextToken 230 = .ok (.aload_n 0, 1) := by decide +kernel
theorem dX7_nextToken_231 : decode cX7_nextToken 231 = .ok (.getfield 226, 3) := by decide +kernel
theorem dX7_nextToken_234 : decode cX7_nextToken 234 = .ok (.isub, 1) := by decide +kernel
theorem dX7_nextToken_235 : decode cX7_nextToken 235 = .ok (.iconst 4, 1) := by decide +kernel
theorem dX7_nextToken_236 : decode cX7_nextToken 236 = .ok (.if_icmp .ge 26, 3) := by decide +kernel
theorem dX7_nextToken_239 : decode cX7_nextToken 239 = .ok (.bipush 10, 2) := by decide +kernel
theorem dX7_nextToken_241 : decode cX7_nextToken 241 = .ok (.aload_n 0, 1) := by decide +kernel
theorem dX7_nextToken_242 : decode cX7_nextToken 242 = .ok (.getfield 238, 3) := by decide +kernel
theorem dX7_nextToken_245 : decode cX7_nextToken 245 = .ok (.imul, 1) := by decide +kernel
theorem dX7_nextToken_246 : decode cX7_nextToken 246 = .ok (.aload_n 0, 1) := by decide +kernel
theorem dX7_nextToken_247 : decode cX7_nextToken 247 = .ok (.getfield 53, 3) := by decide +kernel
theorem dX7_nextToken_250 : decode cX7_nextToken 250 = .ok (.aload_n 0, 1) := by decide +kernel
theorem dX7_nextToken_251 : decode cX7_nextToken 251 = .ok (.getfield 220, 3) := by decide +kernel
theorem dX7_nextToken_254 : decode cX7_nextToken 254 = .ok (.iaload, 1) := by decide +kernel
theorem dX7_nextToken_255 : decode cX7_nextToken 255 = .ok (.iadd, 1) := by decide +kernel
theorem dX7_nextToken_256 : decode cX7_nextToken 256 = .ok (.bipush 48, 2) := by decide +kernel
theorem dX7_nextToken_258 : decode cX7_nextToken 258 = .ok (.isub, 1) := by decide +kernel
theorem dX7_nextToken_259 : decode cX7_nextToken 259 = .ok (.goto 7, 3) := by decide +kernel
theorem dX7_nextToken_262 : decode cX7_nextToken 262 = .ok (.aload_n 0, 1) := by decide +kernel
theorem dX7_nextToken_263 : decode cX7_nextToken 263 = .ok (.getfield 238, 3) := by decide +kernel
theorem dX7_nextToken_266 : decode cX7_nextToken 266 = .ok (.putfield 238, 3) := by decide +kernel
theorem dX7_nextToken_269 : decode cX7_nextToken 269 = .ok (.aload_n 0, 1) := by decide +kernel
theorem dX7_nextToken_270 : decode cX7_nextToken 270 = .ok (.dup, 1) := by decide +kernel
theorem dX7_nextToken_271 : decode cX7_nextToken 271 = .ok (.getfield 220, 3) := by decide +kernel
theorem dX7_nextToken_274 : decode cX7_nextToken 274 = .ok (.iconst 1, 1) := by decide +kernel
theorem dX7_nextToken_275 : decode cX7_nextToken 275 = .ok (.iadd, 1) := by decide +kernel
theorem dX7_nextToken_276 : decode cX7_nextToken 276 = .ok (.putfield 220, 3) := by decide +kernel
theorem dX7_nextToken_279 : decode cX7_nextToken 279 = .ok (.goto (-65), 3) := by decide +kernel
theorem dX7_nextToken_282 : decode cX7_nextToken 282 = .ok (.aload_n 0, 1) := by decide +kernel
theorem dX7_nextToken_283 : decode cX7_nextToken 283 = .ok (.iload_n 1, 1) := by decide +kernel
theorem dX7_nextToken_284 : decode cX7_nextToken 284 = .ok (.ifCond .ne 16, 3) := by decide +kernel
theorem dX7_nextToken_287 : decode cX7_nextToken 287 = .ok (.aload_n 0, 1) := by decide +kernel
theorem dX7_nextToken_288 : decode cX7_nextToken 288 = .ok (.getfield 220, 3) := by decide +kernel
theorem dX7_nextToken_291 : decode cX7_nextToken 291 = .ok (.aload_n 0, 1) := by decide +kernel
theorem dX7_nextToken_292 : decode cX7_nextToken 292 = .ok (.getfield 226, 3) := by decide +kernel
theorem dX7_nextToken_295 : decode cX7_nextToken 295 = .ok (.isub, 1) := by decide +kernel
theorem dX7_nextToken_296 : decode cX7_nextToken 296 = .ok (.iconst 4, 1) := by decide +kernel
theorem dX7_nextToken_297 : decode cX7_nextToken 297 = .ok (.if_icmp .le 7, 3) := by decide +kernel
theorem dX7_nextToken_300 : decode cX7_nextToken 300 = .ok (.iconst 4, 1) := by decide +kernel
theorem dX7_nextToken_301 : decode cX7_nextToken 301 = .ok (.goto 4, 3) := by decide +kernel
theorem dX7_nextToken_304 : decode cX7_nextToken 304 = .ok (.iconst 2, 1) := by decide +kernel
theorem dX7_nextToken_305 : decode cX7_nextToken 305 = .ok (.putfield 223, 3) := by decide +kernel
theorem dX7_nextToken_308 : decode cX7_nextToken 308 = .ok (.goto 31, 3) := by decide +kernel
theorem dX7_nextToken_311 : decode cX7_nextToken 311 = .ok (.aload_n 0, 1) := by decide +kernel
theorem dX7_nextToken_312 : decode cX7_nextToken 312 = .ok (.iconst 3, 1) := by decide +kernel
theorem dX7_nextToken_313 : decode cX7_nextToken 313 = .ok (.putfield 223, 3) := by decide +kernel
theorem dX7_nextToken_316 : decode cX7_nextToken 316 = .ok (.aload_n 0, 1) := by decide +kernel
theorem dX7_nextToken_317 : decode cX7_nextToken 317 = .ok (.aload_n 0, 1) := by decide +kernel
theorem dX7_nextToken_318 : decode cX7_nextToken 318 = .ok (.getfield 53, 3) := by decide +kernel
theorem dX7_nextToken_321 : decode cX7_nextToken 321 = .ok (.aload_n 0, 1) := by decide +kernel
theorem dX7_nextToken_322 : decode cX7_nextToken 322 = .ok (.getfield 226, 3) := by decide +kernel
theorem dX7_nextToken_325 : decode cX7_nextToken 325 = .ok (.iaload, 1) := by decide +kernel
theorem dX7_nextToken_326 : decode cX7_nextToken 326 = .ok (.putfield 232, 3) := by decide +kernel
theorem dX7_nextToken_329 : decode cX7_nextToken 329 = .ok (.aload_n 0, 1) := by decide +kernel
theorem dX7_nextToken_330 : decode cX7_nextToken 330 = .ok (.dup, 1) := by decide +kernel
theorem dX7_nextToken_331 : decode cX7_nextToken 331 = .ok (.getfield 220, 3) := by decide +kernel
theorem dX7_nextToken_334 : decode cX7_nextToken 334 = .ok (.iconst 1, 1) := by decide +kernel
theorem dX7_nextToken_335 : decode cX7_nextToken 335 = .ok (.iadd, 1) := by decide +kernel
theorem dX7_nextToken_336 : decode cX7_nextToken 336 = .ok (.putfield 220, 3) := by decide +kernel
theorem dX7_nextToken_339 : decode cX7_nextToken 339 = .ok (.return_, 1) := by decide +kernel
theorem dX7_isSign_0 : decode cX7_isSign 0 = .ok (.aload_n 0, 1) := by decide +kernel
theorem dX7_isSign_1 : decode cX7_isSign 1 = .ok (.getfield 223, 3) := by decide +kernel
theorem dX7_isSign_4 : decode cX7_isSign 4 = .ok (.iconst 3, 1) := by decide +kernel
theorem dX7_isSign_5 : decode cX7_isSign 5 = .ok (.if_icmp .ne 15, 3) := by decide +kernel
theorem dX7_isSign_8 : decode cX7_isSign 8 = .ok (.aload_n 0, 1) := by decide +kernel
theorem dX7_isSign_9 : decode cX7_isSign 9 = .ok (.getfield 232, 3) := by decide +kernel
theorem dX7_isSign_12 : decode cX7_isSign 12 = .ok (.iload_n 1, 1) := by decide +kernel
theorem dX7_isSign_13 : decode cX7_isSign 13 = .ok (.if_icmp .ne 7, 3) := by decide +kernel
theorem dX7_isSign_16 : decode cX7_isSign 16 = .ok (.iconst 1, 1) := by decide +kernel
theorem dX7_isSign_17 : decode cX7_isSign 17 = .ok (.goto 4, 3) := by decide +kernel
theorem dX7_isSign_20 : decode cX7_isSign 20 = .ok (.iconst 0, 1) := by decide +kernel
theorem dX7_isSign_21 : decode cX7_isSign 21 = .ok (.ireturn, 1) := by decide +kernel
theorem dX7_isWordAt_0 : decode cX7_isWordAt 0 = .ok (.iload 4, 2) := by decide +kernel
theorem dX7_isWordAt_2 : decode cX7_isWordAt 2 = .ok (.ifCond .ne 7, 3) := by decide +kernel
theorem dX7_isWordAt_5 : decode cX7_isWordAt 5 = .ok (.iconst 3, 1) := by decide +kernel
theorem dX7_isWordAt_6 : decode cX7_isWordAt 6 = .ok (.goto 4, 3) := by decide +kernel
theorem dX7_isWordAt_9 : decode cX7_isWordAt 9 = .ok (.iconst 4, 1) := by decide +kernel
theorem dX7_isWordAt_10 : decode cX7_isWordAt 10 = .ok (.istore 5, 2) := by decide +kernel
theorem dX7_isWordAt_12 : decode cX7_isWordAt 12 = .ok (.aload_n 0, 1) := by decide +kernel
theorem dX7_isWordAt_13 : decode cX7_isWordAt 13 = .ok (.getfield 223, 3) := by decide +kernel
theorem dX7_isWordAt_16 : decode cX7_isWordAt 16 = .ok (.iconst 1, 1) := by decide +kernel
theorem dX7_isWordAt_17 : decode cX7_isWordAt 17 = .ok (.if_icmp .ne 85, 3) := by decide +kernel
theorem dX7_isWordAt_20 : decode cX7_isWordAt 20 = .ok (.aload_n 0, 1) := by decide +kernel
theorem dX7_isWordAt_21 : decode cX7_isWordAt 21 = .ok (.getfield 220, 3) := by decide +kernel
theorem dX7_isWordAt_24 : decode cX7_isWordAt 24 = .ok (.aload_n 0, 1) := by decide +kernel
theorem dX7_isWordAt_25 : decode cX7_isWordAt 25 = .ok (.getfield 226, 3) := by decide +kernel
theorem dX7_isWordAt_28 : decode cX7_isWordAt 28 = .ok (.isub, 1) := by decide +kernel
theorem dX7_isWordAt_29 : decode cX7_isWordAt 29 = .ok (.iload 5, 2) := by decide +kernel
theorem dX7_isWordAt_31 : decode cX7_isWordAt 31 = .ok (.if_icmp .ne 71, 3) := by decide +kernel
theorem dX7_isWordAt_34 : decode cX7_isWordAt 34 = .ok (.aload_n 0, 1) := by decide +kernel
theorem dX7_isWordAt_35 : decode cX7_isWordAt 35 = .ok (.getfield 53, 3) := by decide +kernel
theorem dX7_isWordAt_38 : decode cX7_isWordAt 38 = .ok (.aload_n 0, 1) := by decide +kernel
theorem dX7_isWordAt_39 : decode cX7_isWordAt 39 = .ok (.getfield 226, 3) := by decide +kernel
theorem dX7_isWordAt_42 : decode cX7_isWordAt 42 = .ok (.iaload, 1) := by decide +kernel
theorem dX7_isWordAt_43 : decode cX7_isWordAt 43 = .ok (.iload_n 1, 1) := by decide +kernel
theorem dX7_isWordAt_44 : decode cX7_isWordAt 44 = .ok (.if_icmp .ne 58, 3) := by decide +kernel
theorem dX7_isWordAt_47 : decode cX7_isWordAt 47 = .ok (.aload_n 0, 1) := by decide +kernel
theorem dX7_isWordAt_48 : decode cX7_isWordAt 48 = .ok (.getfield 53, 3) := by decide +kernel
theorem dX7_isWordAt_51 : decode cX7_isWordAt 51 = .ok (.aload_n 0, 1) := by decide +kernel
theorem dX7_isWordAt_52 : decode cX7_isWordAt 52 = .ok (.getfield 226, 3) := by decide +kernel
theorem dX7_isWordAt_55 : decode cX7_isWordAt 55 = .ok (.iconst 1, 1) := by decide +kernel
theorem dX7_isWordAt_56 : decode cX7_isWordAt 56 = .ok (.iadd, 1) := by decide +kernel
theorem dX7_isWordAt_57 : decode cX7_isWordAt 57 = .ok (.iaload, 1) := by decide +kernel
theorem dX7_isWordAt_58 : decode cX7_isWordAt 58 = .ok (.iload_n 2, 1) := by decide +kernel
theorem dX7_isWordAt_59 : decode cX7_isWordAt 59 = .ok (.if_icmp .ne 43, 3) := by decide +kernel
theorem dX7_isWordAt_62 : decode cX7_isWordAt 62 = .ok (.aload_n 0, 1) := by decide +kernel
theorem dX7_isWordAt_63 : decode cX7_isWordAt 63 = .ok (.getfield 53, 3) := by decide +kernel
theorem dX7_isWordAt_66 : decode cX7_isWordAt 66 = .ok (.aload_n 0, 1) := by decide +kernel
theorem dX7_isWordAt_67 : decode cX7_isWordAt 67 = .ok (.getfield 226, 3) := by decide +kernel
theorem dX7_isWordAt_70 : decode cX7_isWordAt 70 = .ok (.iconst 2, 1) := by decide +kernel
theorem dX7_isWordAt_71 : decode cX7_isWordAt 71 = .ok (.iadd, 1) := by decide +kernel
theorem dX7_isWordAt_72 : decode cX7_isWordAt 72 = .ok (.iaload, 1) := by decide +kernel
theorem dX7_isWordAt_73 : decode cX7_isWordAt 73 = .ok (.iload_n 3, 1) := by decide +kernel
theorem dX7_isWordAt_74 : decode cX7_isWordAt 74 = .ok (.if_icmp .ne 28, 3) := by decide +kernel
theorem dX7_isWordAt_77 : decode cX7_isWordAt 77 = .ok (.iload 4, 2) := by decide +kernel
theorem dX7_isWordAt_79 : decode cX7_isWordAt 79 = .ok (.ifCond .eq 19, 3) := by decide +kernel
theorem dX7_isWordAt_82 : decode cX7_isWordAt 82 = .ok (.aload_n 0, 1) := by decide +kernel
theorem dX7_isWordAt_83 : decode cX7_isWordAt 83 = .ok (.getfield 53, 3) := by decide +kernel
theorem dX7_isWordAt_86 : decode cX7_isWordAt 86 = .ok (.aload_n 0, 1) := by decide +kernel
theorem dX7_isWordAt_87 : decode cX7_isWordAt 87 = .ok (.getfield 226, 3) := by decide +kernel
theorem dX7_isWordAt_90 : decode cX7_isWordAt 90 = .ok (.iconst 3, 1) := by decide +kernel
theorem dX7_isWordAt_91 : decode cX7_isWordAt 91 = .ok (.iadd, 1) := by decide +kernel
theorem dX7_isWordAt_92 : decode cX7_isWordAt 92 = .ok (.iaload, 1) := by decide +kernel
theorem dX7_isWordAt_93 : decode cX7_isWordAt 93 = .ok (.iload 4, 2) := by decide +kernel
theorem dX7_isWordAt_95 : decode cX7_isWordAt 95 = .ok (.if_icmp .ne 7, 3) := by decide +kernel
theorem dX7_isWordAt_98 : decode cX7_isWordAt 98 = .ok (.iconst 1, 1) := by decide +kernel
theorem dX7_isWordAt_99 : decode cX7_isWordAt 99 = .ok (.goto 4, 3) := by decide +kernel
theorem dX7_isWordAt_102 : decode cX7_isWordAt 102 = .ok (.iconst 0, 1) := by decide +kernel
theorem dX7_isWordAt_103 : decode cX7_isWordAt 103 = .ok (.ireturn, 1) := by decide +kernel
theorem dX7_key_0 : decode cX7_key 0 = .ok (.aload_n 0, 1) := by decide +kernel
theorem dX7_key_1 : decode cX7_key 1 = .ok (.bipush 112, 2) := by decide +kernel
theorem dX7_key_3 : decode cX7_key 3 = .ok (.bipush 97, 2) := by decide +kernel
theorem dX7_key_5 : decode cX7_key 5 = .ok (.bipush 99, 2) := by decide +kernel
theorem dX7_key_7 : decode cX7_key 7 = .ok (.bipush 101, 2) := by decide +kernel
theorem dX7_key_9 : decode cX7_key 9 = .ok (.invokevirtual 241, 3) := by decide +kernel
theorem dX7_key_12 : decode cX7_key 12 = .ok (.ifCond .eq 5, 3) := by decide +kernel
theorem dX7_key_15 : decode cX7_key 15 = .ok (.iconst 0, 1) := by decide +kernel
theorem dX7_key_16 : decode cX7_key 16 = .ok (.ireturn, 1) := by decide +kernel
theorem dX7_key_17 : decode cX7_key 17 = .ok (.aload_n 0, 1) := by decide +kernel
theorem dX7_key_18 : decode cX7_key 18 = .ok (.bipush 106, 2) := by decide +kernel
theorem dX7_key_20 : decode cX7_key 20 = .ok (.bipush 111, 2) := by decide +kernel
theorem dX7_key_22 : decode cX7_key 22 = .ok (.bipush 105, 2) := by decide +kernel
theorem dX7_key_24 : decode cX7_key 24 = .ok (.bipush 110, 2) := by decide +kernel
theorem dX7_key_26 : decode cX7_key 26 = .ok (.invokevirtual 241, 3) := by decide +kernel
theorem dX7_key_29 : decode cX7_key 29 = .ok (.ifCond .eq 5, 3) := by decide +kernel
theorem dX7_key_32 : decode cX7_key 32 = .ok (.iconst 1, 1) := by decide +kernel
theorem dX7_key_33 : decode cX7_key 33 = .ok (.ireturn, 1) := by decide +kernel
theorem dX7_key_34 : decode cX7_key 34 = .ok (.aload_n 0, 1) := by decide +kernel
theorem dX7_key_35 : decode cX7_key 35 = .ok (.bipush 119, 2) := by decide +kernel
theorem dX7_key_37 : decode cX7_key 37 = .ok (.bipush 105, 2) := by decide +kernel
theorem dX7_key_39 : decode cX7_key 39 = .ok (.bipush 110, 2) := by decide +kernel
theorem dX7_key_41 : decode cX7_key 41 = .ok (.bipush 100, 2) := by decide +kernel
theorem dX7_key_43 : decode cX7_key 43 = .ok (.invokevirtual 241, 3) := by decide +kernel
theorem dX7_key_46 : decode cX7_key 46 = .ok (.ifCond .eq 7, 3) := by decide +kernel
theorem dX7_key_49 : decode cX7_key 49 = .ok (.iconst 2, 1) := by decide +kernel
theorem dX7_key_50 : decode cX7_key 50 = .ok (.goto 4, 3) := by decide +kernel
theorem dX7_key_53 : decode cX7_key 53 = .ok (.iconst (-1), 1) := by decide +kernel
theorem dX7_key_54 : decode cX7_key 54 = .ok (.ireturn, 1) := by decide +kernel
theorem dX7_isName_0 : decode cX7_isName 0 = .ok (.iload_n 0, 1) := by decide +kernel
theorem dX7_isName_1 : decode cX7_isName 1 = .ok (.lookupswitch 69 #[(0, 27), (1, 45)], 27) := by decide +kernel
theorem dX7_isName_28 : decode cX7_isName 28 = .ok (.iload_n 1, 1) := by decide +kernel
theorem dX7_isName_29 : decode cX7_isName 29 = .ok (.bipush 115, 2) := by decide +kernel
theorem dX7_isName_31 : decode cX7_isName 31 = .ok (.if_icmp .eq 9, 3) := by decide +kernel
theorem dX7_isName_34 : decode cX7_isName 34 = .ok (.iload_n 1, 1) := by decide +kernel
theorem dX7_isName_35 : decode cX7_isName 35 = .ok (.bipush 110, 2) := by decide +kernel
theorem dX7_isName_37 : decode cX7_isName 37 = .ok (.if_icmp .ne 7, 3) := by decide +kernel
theorem dX7_isName_40 : decode cX7_isName 40 = .ok (.iconst 1, 1) := by decide +kernel
theorem dX7_isName_41 : decode cX7_isName 41 = .ok (.goto 4, 3) := by decide +kernel
theorem dX7_isName_44 : decode cX7_isName 44 = .ok (.iconst 0, 1) := by decide +kernel
theorem dX7_isName_45 : decode cX7_isName 45 = .ok (.ireturn, 1) := by decide +kernel
theorem dX7_isName_46 : decode cX7_isName 46 = .ok (.iload_n 1, 1) := by decide +kernel
theorem dX7_isName_47 : decode cX7_isName 47 = .ok (.bipush 100, 2) := by decide +kernel
theorem dX7_isName_49 : decode cX7_isName 49 = .ok (.if_icmp .eq 15, 3) := by decide +kernel
theorem dX7_isName_52 : decode cX7_isName 52 = .ok (.iload_n 1, 1) := by decide +kernel
theorem dX7_isName_53 : decode cX7_isName 53 = .ok (.bipush 112, 2) := by decide +kernel
theorem dX7_isName_55 : decode cX7_isName 55 = .ok (.if_icmp .eq 9, 3) := by decide +kernel
theorem dX7_isName_58 : decode cX7_isName 58 = .ok (.iload_n 1, 1) := by decide +kernel
theorem dX7_isName_59 : decode cX7_isName 59 = .ok (.bipush 115, 2) := by decide +kernel
theorem dX7_isName_61 : decode cX7_isName 61 = .ok (.if_icmp .ne 7, 3) := by decide +kernel
theorem dX7_isName_64 : decode cX7_isName 64 = .ok (.iconst 1, 1) := by decide +kernel
theorem dX7_isName_65 : decode cX7_isName 65 = .ok (.goto 4, 3) := by decide +kernel
theorem dX7_isName_68 : decode cX7_isName 68 = .ok (.iconst 0, 1) := by decide +kernel
theorem dX7_isName_69 : decode cX7_isName 69 = .ok (.ireturn, 1) := by decide +kernel
theorem dX7_isName_70 : decode cX7_isName 70 = .ok (.iload_n 1, 1) := by decide +kernel
theorem dX7_isName_71 : decode cX7_isName 71 = .ok (.bipush 116, 2) := by decide +kernel
theorem dX7_isName_73 : decode cX7_isName 73 = .ok (.if_icmp .eq 9, 3) := by decide +kernel
theorem dX7_isName_76 : decode cX7_isName 76 = .ok (.iload_n 1, 1) := by decide +kernel
theorem dX7_isName_77 : decode cX7_isName 77 = .ok (.bipush 110, 2) := by decide +kernel
theorem dX7_isName_79 : decode cX7_isName 79 = .ok (.if_icmp .ne 7, 3) := by decide +kernel
theorem dX7_isName_82 : decode cX7_isName 82 = .ok (.iconst 1, 1) := by decide +kernel
theorem dX7_isName_83 : decode cX7_isName 83 = .ok (.goto 4, 3) := by decide +kernel
theorem dX7_isName_86 : decode cX7_isName 86 = .ok (.iconst 0, 1) := by decide +kernel
theorem dX7_isName_87 : decode cX7_isName 87 = .ok (.ireturn, 1) := by decide +kernel
theorem dX7_step_0 : decode cX7_step 0 = .ok (.aload_n 0, 1) := by decide +kernel
theorem dX7_step_1 : decode cX7_step 1 = .ok (.getfield 7, 3) := by decide +kernel
theorem dX7_step_4 : decode cX7_step 4 = .ok (.aload_n 0, 1) := by decide +kernel
theorem dX7_step_5 : decode cX7_step 5 = .ok (.getfield 245, 3) := by decide +kernel
theorem dX7_step_8 : decode cX7_step 8 = .ok (.iconst 2, 1) := by decide +kernel
theorem dX7_step_9 : decode cX7_step 9 = .ok (.aload_n 0, 1) := by decide +kernel
theorem dX7_step_10 : decode cX7_step 10 = .ok (.getfield 248, 3) := by decide +kernel
theorem dX7_step_13 : decode cX7_step 13 = .ok (.imul, 1) := by decide +kernel
theorem dX7_step_14 : decode cX7_step 14 = .ok (.iadd, 1) := by decide +kernel
theorem dX7_step_15 : decode cX7_step 15 = .ok (.iload_n 1, 1) := by decide +kernel
theorem dX7_step_16 : decode cX7_step 16 = .ok (.iastore, 1) := by decide +kernel
theorem dX7_step_17 : decode cX7_step 17 = .ok (.aload_n 0, 1) := by decide +kernel
theorem dX7_step_18 : decode cX7_step 18 = .ok (.getfield 7, 3) := by decide +kernel
theorem dX7_step_21 : decode cX7_step 21 = .ok (.aload_n 0, 1) := by decide +kernel
theorem dX7_step_22 : decode cX7_step 22 = .ok (.getfield 245, 3) := by decide +kernel
theorem dX7_step_25 : decode cX7_step 25 = .ok (.iconst 2, 1) := by decide +kernel
theorem dX7_step_26 : decode cX7_step 26 = .ok (.aload_n 0, 1) := by decide +kernel
theorem dX7_step_27 : decode cX7_step 27 = .ok (.getfield 248, 3) := by decide +kernel
theorem dX7_step_30 : decode cX7_step 30 = .ok (.imul, 1) := by decide +kernel
theorem dX7_step_31 : decode cX7_step 31 = .ok (.iadd, 1) := by decide +kernel
theorem dX7_step_32 : decode cX7_step 32 = .ok (.iconst 1, 1) := by decide +kernel
theorem dX7_step_33 : decode cX7_step 33 = .ok (.iadd, 1) := by decide +kernel
theorem dX7_step_34 : decode cX7_step 34 = .ok (.iload_n 2, 1) := by decide +kernel
theorem dX7_step_35 : decode cX7_step 35 = .ok (.iastore, 1) := by decide +kernel
theorem dX7_step_36 : decode cX7_step 36 = .ok (.aload_n 0, 1) := by decide +kernel
theorem dX7_step_37 : decode cX7_step 37 = .ok (.dup, 1) := by decide +kernel
theorem dX7_step_38 : decode cX7_step 38 = .ok (.getfield 248, 3) := by decide +kernel
theorem dX7_step_41 : decode cX7_step 41 = .ok (.iconst 1, 1) := by decide +kernel
theorem dX7_step_42 : decode cX7_step 42 = .ok (.iadd, 1) := by decide +kernel
theorem dX7_step_43 : decode cX7_step 43 = .ok (.putfield 248, 3) := by decide +kernel
theorem dX7_step_46 : decode cX7_step 46 = .ok (.return_, 1) := by decide +kernel
theorem dX7_either_0 : decode cX7_either 0 = .ok (.aload_n 0, 1) := by decide +kernel
theorem dX7_either_1 : decode cX7_either 1 = .ok (.iload_n 1, 1) := by decide +kernel
theorem dX7_either_2 : decode cX7_either 2 = .ok (.invokevirtual 251, 3) := by decide +kernel
theorem dX7_either_5 : decode cX7_either 5 = .ok (.ifCond .ne 5, 3) := by decide +kernel
theorem dX7_either_8 : decode cX7_either 8 = .ok (.iconst 0, 1) := by decide +kernel
theorem dX7_either_9 : decode cX7_either 9 = .ok (.ireturn, 1) := by decide +kernel
theorem dX7_either_10 : decode cX7_either 10 = .ok (.aload_n 0, 1) := by decide +kernel
theorem dX7_either_11 : decode cX7_either 11 = .ok (.bipush 124, 2) := by decide +kernel
theorem dX7_either_13 : decode cX7_either 13 = .ok (.invokevirtual 254, 3) := by decide +kernel
theorem dX7_either_16 : decode cX7_either 16 = .ok (.ifCond .eq 27, 3) := by decide +kernel
theorem dX7_either_19 : decode cX7_either 19 = .ok (.aload_n 0, 1) := by decide +kernel
theorem dX7_either_20 : decode cX7_either 20 = .ok (.invokevirtual 257, 3) := by decide +kernel
theorem dX7_either_23 : decode cX7_either 23 = .ok (.aload_n 0, 1) := by decide +kernel
theorem dX7_either_24 : decode cX7_either 24 = .ok (.iload_n 1, 1) := by decide +kernel
theorem dX7_either_25 : decode cX7_either 25 = .ok (.invokevirtual 251, 3) := by decide +kernel
theorem dX7_either_28 : decode cX7_either 28 = .ok (.ifCond .ne 5, 3) := by decide +kernel
theorem dX7_either_31 : decode cX7_either 31 = .ok (.iconst 0, 1) := by decide +kernel
theorem dX7_either_32 : decode cX7_either 32 = .ok (.ireturn, 1) := by decide +kernel
theorem dX7_either_33 : decode cX7_either 33 = .ok (.aload_n 0, 1) := by decide +kernel
theorem dX7_either_34 : decode cX7_either 34 = .ok (.iconst 2, 1) := by decide +kernel
theorem dX7_either_35 : decode cX7_either 35 = .ok (.bipush 124, 2) := by decide +kernel
theorem dX7_either_37 : decode cX7_either 37 = .ok (.invokevirtual 260, 3) := by decide +kernel
theorem dX7_either_40 : decode cX7_either 40 = .ok (.goto (-30), 3) := by decide +kernel
theorem dX7_either_43 : decode cX7_either 43 = .ok (.iconst 1, 1) := by decide +kernel
theorem dX7_either_44 : decode cX7_either 44 = .ok (.ireturn, 1) := by decide +kernel
theorem dX7_both_0 : decode cX7_both 0 = .ok (.aload_n 0, 1) := by decide +kernel
theorem dX7_both_1 : decode cX7_both 1 = .ok (.iload_n 1, 1) := by decide +kernel
theorem dX7_both_2 : decode cX7_both 2 = .ok (.invokevirtual 264, 3) := by decide +kernel
theorem dX7_both_5 : decode cX7_both 5 = .ok (.ifCond .ne 5, 3) := by decide +kernel
theorem dX7_both_8 : decode cX7_both 8 = .ok (.iconst 0, 1) := by decide +kernel
theorem dX7_both_9 : decode cX7_both 9 = .ok (.ireturn, 1) := by decide +kernel
theorem dX7_both_10 : decode cX7_both 10 = .ok (.aload_n 0, 1) := by decide +kernel
theorem dX7_both_11 : decode cX7_both 11 = .ok (.bipush 38, 2) := by decide +kernel
theorem dX7_both_13 : decode cX7_both 13 = .ok (.invokevirtual 254, 3) := by decide +kernel
theorem dX7_both_16 : decode cX7_both 16 = .ok (.ifCond .eq 27, 3) := by decide +kernel
theorem dX7_both_19 : decode cX7_both 19 = .ok (.aload_n 0, 1) := by decide +kernel
theorem dX7_both_20 : decode cX7_both 20 = .ok (.invokevirtual 257, 3) := by decide +kernel
theorem dX7_both_23 : decode cX7_both 23 = .ok (.aload_n 0, 1) := by decide +kernel
theorem dX7_both_24 : decode cX7_both 24 = .ok (.iload_n 1, 1) := by decide +kernel
theorem dX7_both_25 : decode cX7_both 25 = .ok (.invokevirtual 264, 3) := by decide +kernel
theorem dX7_both_28 : decode cX7_both 28 = .ok (.ifCond .ne 5, 3) := by decide +kernel
theorem dX7_both_31 : decode cX7_both 31 = .ok (.iconst 0, 1) := by decide +kernel
theorem dX7_both_32 : decode cX7_both 32 = .ok (.ireturn, 1) := by decide +kernel
theorem dX7_both_33 : decode cX7_both 33 = .ok (.aload_n 0, 1) := by decide +kernel
theorem dX7_both_34 : decode cX7_both 34 = .ok (.iconst 2, 1) := by decide +kernel
theorem dX7_both_35 : decode cX7_both 35 = .ok (.bipush 38, 2) := by decide +kernel
theorem dX7_both_37 : decode cX7_both 37 = .ok (.invokevirtual 260, 3) := by decide +kernel
theorem dX7_both_40 : decode cX7_both 40 = .ok (.goto (-30), 3) := by decide +kernel
theorem dX7_both_43 : decode cX7_both 43 = .ok (.iconst 1, 1) := by decide +kernel
theorem dX7_both_44 : decode cX7_both 44 = .ok (.ireturn, 1) := by decide +kernel
theorem dX7_test_0 : decode cX7_test 0 = .ok (.aload_n 0, 1) := by decide +kernel
theorem dX7_test_1 : decode cX7_test 1 = .ok (.iload_n 1, 1) := by decide +kernel
theorem dX7_test_2 : decode cX7_test 2 = .ok (.invokevirtual 267, 3) := by decide +kernel
theorem dX7_test_5 : decode cX7_test 5 = .ok (.ifCond .ne 5, 3) := by decide +kernel
theorem dX7_test_8 : decode cX7_test 8 = .ok (.iconst 0, 1) := by decide +kernel
theorem dX7_test_9 : decode cX7_test 9 = .ok (.ireturn, 1) := by decide +kernel
theorem dX7_test_10 : decode cX7_test 10 = .ok (.aload_n 0, 1) := by decide +kernel
theorem dX7_test_11 : decode cX7_test 11 = .ok (.bipush 60, 2) := by decide +kernel
theorem dX7_test_13 : decode cX7_test 13 = .ok (.invokevirtual 254, 3) := by decide +kernel
theorem dX7_test_16 : decode cX7_test 16 = .ok (.ifCond .ne 21, 3) := by decide +kernel
theorem dX7_test_19 : decode cX7_test 19 = .ok (.aload_n 0, 1) := by decide +kernel
theorem dX7_test_20 : decode cX7_test 20 = .ok (.bipush 61, 2) := by decide +kernel
theorem dX7_test_22 : decode cX7_test 22 = .ok (.invokevirtual 254, 3) := by decide +kernel
theorem dX7_test_25 : decode cX7_test 25 = .ok (.ifCond .ne 12, 3) := by decide +kernel
theorem dX7_test_28 : decode cX7_test 28 = .ok (.aload_n 0, 1) := by decide +kernel
theorem dX7_test_29 : decode cX7_test 29 = .ok (.bipush 62, 2) := by decide +kernel
theorem dX7_test_31 : decode cX7_test 31 = .ok (.invokevirtual 254, 3) := by decide +kernel
theorem dX7_test_34 : decode cX7_test 34 = .ok (.ifCond .eq 28, 3) := by decide +kernel
theorem dX7_test_37 : decode cX7_test 37 = .ok (.aload_n 0, 1) := by decide +kernel
theorem dX7_test_38 : decode cX7_test 38 = .ok (.getfield 232, 3) := by decide +kernel
theorem dX7_test_41 : decode cX7_test 41 = .ok (.istore_n 2, 1) := by decide +kernel
theorem dX7_test_42 : decode cX7_test 42 = .ok (.aload_n 0, 1) := by decide +kernel
theorem dX7_test_43 : decode cX7_test 43 = .ok (.invokevirtual 257, 3) := by decide +kernel
theorem dX7_test_46 : decode cX7_test 46 = .ok (.aload_n 0, 1) := by decide +kernel
theorem dX7_test_47 : decode cX7_test 47 = .ok (.iload_n 1, 1) := by decide +kernel
theorem dX7_test_48 : decode cX7_test 48 = .ok (.invokevirtual 267, 3) := by decide +kernel
theorem dX7_test_51 : decode cX7_test 51 = .ok (.ifCond .ne 5, 3) := by decide +kernel
theorem dX7_test_54 : decode cX7_test 54 = .ok (.iconst 0, 1) := by decide +kernel
theorem dX7_test_55 : decode cX7_test 55 = .ok (.ireturn, 1) := by decide +kernel
theorem dX7_test_56 : decode cX7_test 56 = .ok (.aload_n 0, 1) := by decide +kernel
theorem dX7_test_57 : decode cX7_test 57 = .ok (.iconst 2, 1) := by decide +kernel
theorem dX7_test_58 : decode cX7_test 58 = .ok (.iload_n 2, 1) := by decide +kernel
theorem dX7_test_59 : decode cX7_test 59 = .ok (.invokevirtual 260, 3) := by decide +kernel
theorem dX7_test_62 : decode cX7_test 62 = .ok (.iconst 1, 1) := by decide +kernel
theorem dX7_test_63 : decode cX7_test 63 = .ok (.ireturn, 1) := by decide +kernel
theorem dX7_sum_0 : decode cX7_sum 0 = .ok (.aload_n 0, 1) := by decide +kernel
theorem dX7_sum_1 : decode cX7_sum 1 = .ok (.iload_n 1, 1) := by decide +kernel
theorem dX7_sum_2 : decode cX7_sum 2 = .ok (.invokevirtual 270, 3) := by decide +kernel
theorem dX7_sum_5 : decode cX7_sum 5 = .ok (.ifCond .ne 5, 3) := by decide +kernel
theorem dX7_sum_8 : decode cX7_sum 8 = .ok (.iconst 0, 1) := by decide +kernel
theorem dX7_sum_9 : decode cX7_sum 9 = .ok (.ireturn, 1) := by decide +kernel
theorem dX7_sum_10 : decode cX7_sum 10 = .ok (.aload_n 0, 1) := by decide +kernel
theorem dX7_sum_11 : decode cX7_sum 11 = .ok (.bipush 43, 2) := by decide +kernel
theorem dX7_sum_13 : decode cX7_sum 13 = .ok (.invokevirtual 254, 3) := by decide +kernel
theorem dX7_sum_16 : decode cX7_sum 16 = .ok (.ifCond .ne 12, 3) := by decide +kernel
theorem dX7_sum_19 : decode cX7_sum 19 = .ok (.aload_n 0, 1) := by decide +kernel
theorem dX7_sum_20 : decode cX7_sum 20 = .ok (.bipush 45, 2) := by decide +kernel
theorem dX7_sum_22 : decode cX7_sum 22 = .ok (.invokevirtual 254, 3) := by decide +kernel
theorem dX7_sum_25 : decode cX7_sum 25 = .ok (.ifCond .eq 31, 3) := by decide +kernel
theorem dX7_sum_28 : decode cX7_sum 28 = .ok (.aload_n 0, 1) := by decide +kernel
theorem dX7_sum_29 : decode cX7_sum 29 = .ok (.getfield 232, 3) := by decide +kernel
theorem dX7_sum_32 : decode cX7_sum 32 = .ok (.istore_n 2, 1) := by decide +kernel
theorem dX7_sum_33 : decode cX7_sum 33 = .ok (.aload_n 0, 1) := by decide +kernel
theorem dX7_sum_34 : decode cX7_sum 34 = .ok (.invokevirtual 257, 3) := by decide +kernel
theorem dX7_sum_37 : decode cX7_sum 37 = .ok (.aload_n 0, 1) := by decide +kernel
theorem dX7_sum_38 : decode cX7_sum 38 = .ok (.iload_n 1, 1) := by decide +kernel
theorem dX7_sum_39 : decode cX7_sum 39 = .ok (.invokevirtual 270, 3) := by decide +kernel
theorem dX7_sum_42 : decode cX7_sum 42 = .ok (.ifCond .ne 5, 3) := by decide +kernel
theorem dX7_sum_45 : decode cX7_sum 45 = .ok (.iconst 0, 1) := by decide +kernel
theorem dX7_sum_46 : decode cX7_sum 46 = .ok (.ireturn, 1) := by decide +kernel
theorem dX7_sum_47 : decode cX7_sum 47 = .ok (.aload_n 0, 1) := by decide +kernel
theorem dX7_sum_48 : decode cX7_sum 48 = .ok (.iconst 2, 1) := by decide +kernel
theorem dX7_sum_49 : decode cX7_sum 49 = .ok (.iload_n 2, 1) := by decide +kernel
theorem dX7_sum_50 : decode cX7_sum 50 = .ok (.invokevirtual 260, 3) := by decide +kernel
theorem dX7_sum_53 : decode cX7_sum 53 = .ok (.goto (-43), 3) := by decide +kernel
theorem dX7_sum_56 : decode cX7_sum 56 = .ok (.iconst 1, 1) := by decide +kernel
theorem dX7_sum_57 : decode cX7_sum 57 = .ok (.ireturn, 1) := by decide +kernel
theorem dX7_term_0 : decode cX7_term 0 = .ok (.aload_n 0, 1) := by decide +kernel
theorem dX7_term_1 : decode cX7_term 1 = .ok (.iload_n 1, 1) := by decide +kernel
theorem dX7_term_2 : decode cX7_term 2 = .ok (.invokevirtual 273, 3) := by decide +kernel
theorem dX7_term_5 : decode cX7_term 5 = .ok (.ifCond .ne 5, 3) := by decide +kernel
theorem dX7_term_8 : decode cX7_term 8 = .ok (.iconst 0, 1) := by decide +kernel
theorem dX7_term_9 : decode cX7_term 9 = .ok (.ireturn, 1) := by decide +kernel
theorem dX7_term_10 : decode cX7_term 10 = .ok (.aload_n 0, 1) := by decide +kernel
theorem dX7_term_11 : decode cX7_term 11 = .ok (.bipush 42, 2) := by decide +kernel
theorem dX7_term_13 : decode cX7_term 13 = .ok (.invokevirtual 254, 3) := by decide +kernel
theorem dX7_term_16 : decode cX7_term 16 = .ok (.ifCond .ne 12, 3) := by decide +kernel
theorem dX7_term_19 : decode cX7_term 19 = .ok (.aload_n 0, 1) := by decide +kernel
theorem dX7_term_20 : decode cX7_term 20 = .ok (.bipush 47, 2) := by decide +kernel
theorem dX7_term_22 : decode cX7_term 22 = .ok (.invokevirtual 254, 3) := by decide +kernel
theorem dX7_term_25 : decode cX7_term 25 = .ok (.ifCond .eq 31, 3) := by decide +kernel
theorem dX7_term_28 : decode cX7_term 28 = .ok (.aload_n 0, 1) := by decide +kernel
theorem dX7_term_29 : decode cX7_term 29 = .ok (.getfield 232, 3) := by decide +kernel
theorem dX7_term_32 : decode cX7_term 32 = .ok (.istore_n 2, 1) := by decide +kernel
theorem dX7_term_33 : decode cX7_term 33 = .ok (.aload_n 0, 1) := by decide +kernel
theorem dX7_term_34 : decode cX7_term 34 = .ok (.invokevirtual 257, 3) := by decide +kernel
theorem dX7_term_37 : decode cX7_term 37 = .ok (.aload_n 0, 1) := by decide +kernel
theorem dX7_term_38 : decode cX7_term 38 = .ok (.iload_n 1, 1) := by decide +kernel
theorem dX7_term_39 : decode cX7_term 39 = .ok (.invokevirtual 273, 3) := by decide +kernel
theorem dX7_term_42 : decode cX7_term 42 = .ok (.ifCond .ne 5, 3) := by decide +kernel
theorem dX7_term_45 : decode cX7_term 45 = .ok (.iconst 0, 1) := by decide +kernel
theorem dX7_term_46 : decode cX7_term 46 = .ok (.ireturn, 1) := by decide +kernel
theorem dX7_term_47 : decode cX7_term 47 = .ok (.aload_n 0, 1) := by decide +kernel
theorem dX7_term_48 : decode cX7_term 48 = .ok (.iconst 2, 1) := by decide +kernel
theorem dX7_term_49 : decode cX7_term 49 = .ok (.iload_n 2, 1) := by decide +kernel
theorem dX7_term_50 : decode cX7_term 50 = .ok (.invokevirtual 260, 3) := by decide +kernel
theorem dX7_term_53 : decode cX7_term 53 = .ok (.goto (-43), 3) := by decide +kernel
theorem dX7_term_56 : decode cX7_term 56 = .ok (.iconst 1, 1) := by decide +kernel
theorem dX7_term_57 : decode cX7_term 57 = .ok (.ireturn, 1) := by decide +kernel
theorem dX7_part0_0 : decode cX7_part0 0 = .ok (.aload_n 0, 1) := by decide +kernel
theorem dX7_part0_1 : decode cX7_part0 1 = .ok (.getfield 223, 3) := by decide +kernel
theorem dX7_part0_4 : decode cX7_part0 4 = .ok (.iconst 2, 1) := by decide +kernel
theorem dX7_part0_5 : decode cX7_part0 5 = .ok (.if_icmp .ne 28, 3) := by decide +kernel
theorem dX7_part0_8 : decode cX7_part0 8 = .ok (.aload_n 0, 1) := by decide +kernel
theorem dX7_part0_9 : decode cX7_part0 9 = .ok (.iconst 0, 1) := by decide +kernel
theorem dX7_part0_10 : decode cX7_part0 10 = .ok (.aload_n 0, 1) := by decide +kernel
theorem dX7_part0_11 : decode cX7_part0 11 = .ok (.getfield 238, 3) := by decide +kernel
theorem dX7_part0_14 : decode cX7_part0 14 = .ok (.invokevirtual 260, 3) := by decide +kernel
theorem dX7_part0_17 : decode cX7_part0 17 = .ok (.aload_n 0, 1) := by decide +kernel
theorem dX7_part0_18 : decode cX7_part0 18 = .ok (.dup, 1) := by decide +kernel
theorem dX7_part0_19 : decode cX7_part0 19 = .ok (.getfield 276, 3) := by decide +kernel
theorem dX7_part0_22 : decode cX7_part0 22 = .ok (.iconst 1, 1) := by decide +kernel
theorem dX7_part0_23 : decode cX7_part0 23 = .ok (.iadd, 1) := by decide +kernel
theorem dX7_part0_24 : decode cX7_part0 24 = .ok (.putfield 276, 3) := by decide +kernel
theorem dX7_part0_27 : decode cX7_part0 27 = .ok (.aload_n 0, 1) := by decide +kernel
theorem dX7_part0_28 : decode cX7_part0 28 = .ok (.invokevirtual 257, 3) := by decide +kernel
theorem dX7_part0_31 : decode cX7_part0 31 = .ok (.iconst 1, 1) := by decide +kernel
theorem dX7_part0_32 : decode cX7_part0 32 = .ok (.ireturn, 1) := by decide +kernel
theorem dX7_part0_33 : decode cX7_part0 33 = .ok (.aload_n 0, 1) := by decide +kernel
theorem dX7_part0_34 : decode cX7_part0 34 = .ok (.getfield 223, 3) := by decide +kernel
theorem dX7_part0_37 : decode cX7_part0 37 = .ok (.iconst 1, 1) := by decide +kernel
theorem dX7_part0_38 : decode cX7_part0 38 = .ok (.if_icmp .ne 46, 3) := by decide +kernel
theorem dX7_part0_41 : decode cX7_part0 41 = .ok (.aload_n 0, 1) := by decide +kernel
theorem dX7_part0_42 : decode cX7_part0 42 = .ok (.getfield 232, 3) := by decide +kernel
theorem dX7_part0_45 : decode cX7_part0 45 = .ok (.ifCond .eq 39, 3) := by decide +kernel
theorem dX7_part0_48 : decode cX7_part0 48 = .ok (.iload_n 1, 1) := by decide +kernel
theorem dX7_part0_49 : decode cX7_part0 49 = .ok (.aload_n 0, 1) := by decide +kernel
theorem dX7_part0_50 : decode cX7_part0 50 = .ok (.getfield 232, 3) := by decide +kernel
theorem dX7_part0_53 : decode cX7_part0 53 = .ok (.invokestatic 279, 3) := by decide +kernel
theorem dX7_part0_56 : decode cX7_part0 56 = .ok (.ifCond .eq 28, 3) := by decide +kernel
theorem dX7_part0_59 : decode cX7_part0 59 = .ok (.aload_n 0, 1) := by decide +kernel
theorem dX7_part0_60 : decode cX7_part0 60 = .ok (.iconst 1, 1) := by decide +kernel
theorem dX7_part0_61 : decode cX7_part0 61 = .ok (.aload_n 0, 1) := by decide +kernel
theorem dX7_part0_62 : decode cX7_part0 62 = .ok (.getfield 232, 3) := by decide +kernel
theorem dX7_part0_65 : decode cX7_part0 65 = .ok (.invokevirtual 260, 3) := by decide +kernel
theorem dX7_part0_68 : decode cX7_part0 68 = .ok (.aload_n 0, 1) := by decide +kernel
theorem dX7_part0_69 : decode cX7_part0 69 = .ok (.dup, 1) := by decide +kernel
theorem dX7_part0_70 : decode cX7_part0 70 = .ok (.getfield 276, 3) := by decide +kernel
theorem dX7_part0_73 : decode cX7_part0 73 = .ok (.iconst 1, 1) := by decide +kernel
theorem dX7_part0_74 : decode cX7_part0 74 = .ok (.iadd, 1) := by decide +kernel
theorem dX7_part0_75 : decode cX7_part0 75 = .ok (.putfield 276, 3) := by decide +kernel
theorem dX7_part0_78 : decode cX7_part0 78 = .ok (.aload_n 0, 1) := by decide +kernel
theorem dX7_part0_79 : decode cX7_part0 79 = .ok (.invokevirtual 257, 3) := by decide +kernel
theorem dX7_part0_82 : decode cX7_part0 82 = .ok (.iconst 1, 1) := by decide +kernel
theorem dX7_part0_83 : decode cX7_part0 83 = .ok (.ireturn, 1) := by decide +kernel
theorem dX7_part0_84 : decode cX7_part0 84 = .ok (.aload_n 0, 1) := by decide +kernel
theorem dX7_part0_85 : decode cX7_part0 85 = .ok (.bipush 33, 2) := by decide +kernel
theorem dX7_part0_87 : decode cX7_part0 87 = .ok (.invokevirtual 254, 3) := by decide +kernel
theorem dX7_part0_90 : decode cX7_part0 90 = .ok (.ifCond .eq 55, 3) := by decide +kernel
theorem dX7_part0_93 : decode cX7_part0 93 = .ok (.aload_n 0, 1) := by decide +kernel
theorem dX7_part0_94 : decode cX7_part0 94 = .ok (.getfield 282, 3) := by decide +kernel
theorem dX7_part0_97 : decode cX7_part0 97 = .ok (.bipush 8, 2) := by decide +kernel
theorem dX7_part0_99 : decode cX7_part0 99 = .ok (.if_icmp .ge 46, 3) := by decide +kernel
theorem dX7_part0_102 : decode cX7_part0 102 = .ok (.aload_n 0, 1) := by decide +kernel
theorem dX7_part0_103 : decode cX7_part0 103 = .ok (.dup, 1) := by decide +kernel
theorem dX7_part0_104 : decode cX7_part0 104 = .ok (.getfield 282, 3) := by decide +kernel
theorem dX7_part0_107 : decode cX7_part0 107 = .ok (.iconst 1, 1) := by decide +kernel
theorem dX7_part0_108 : decode cX7_part0 108 = .ok (.iadd, 1) := by decide +kernel
theorem dX7_part0_109 : decode cX7_part0 109 = .ok (.putfield 282, 3) := by decide +kernel
theorem dX7_part0_112 : decode cX7_part0 112 = .ok (.aload_n 0, 1) := by decide +kernel
theorem dX7_part0_113 : decode cX7_part0 113 = .ok (.invokevirtual 257, 3) := by decide +kernel
theorem dX7_part0_116 : decode cX7_part0 116 = .ok (.aload_n 0, 1) := by decide +kernel
theorem dX7_part0_117 : decode cX7_part0 117 = .ok (.iload_n 1, 1) := by decide +kernel
theorem dX7_part0_118 : decode cX7_part0 118 = .ok (.invokevirtual 273, 3) := by decide +kernel
theorem dX7_part0_121 : decode cX7_part0 121 = .ok (.ifCond .ne 5, 3) := by decide +kernel
theorem dX7_part0_124 : decode cX7_part0 124 = .ok (.iconst 0, 1) := by decide +kernel
theorem dX7_part0_125 : decode cX7_part0 125 = .ok (.ireturn, 1) := by decide +kernel
theorem dX7_part0_126 : decode cX7_part0 126 = .ok (.aload_n 0, 1) := by decide +kernel
theorem dX7_part0_127 : decode cX7_part0 127 = .ok (.dup, 1) := by decide +kernel
theorem dX7_part0_128 : decode cX7_part0 128 = .ok (.getfield 282, 3) := by decide +kernel
theorem dX7_part0_131 : decode cX7_part0 131 = .ok (.iconst 1, 1) := by decide +kernel
theorem dX7_part0_132 : decode cX7_part0 132 = .ok (.isub, 1) := by decide +kernel
theorem dX7_part0_133 : decode cX7_part0 133 = .ok (.putfield 282, 3) := by decide +kernel
theorem dX7_part0_136 : decode cX7_part0 136 = .ok (.aload_n 0, 1) := by decide +kernel
theorem dX7_part0_137 : decode cX7_part0 137 = .ok (.iconst 2, 1) := by decide +kernel
theorem dX7_part0_138 : decode cX7_part0 138 = .ok (.bipush 33, 2) := by decide +kernel
theorem dX7_part0_140 : decode cX7_part0 140 = .ok (.invokevirtual 260, 3) := by decide +kernel
theorem dX7_part0_143 : decode cX7_part0 143 = .ok (.iconst 1, 1) := by decide +kernel
theorem dX7_part0_144 : decode cX7_part0 144 = .ok (.ireturn, 1) := by decide +kernel
theorem dX7_part0_145 : decode cX7_part0 145 = .ok (.aload_n 0, 1) := by decide +kernel
theorem dX7_part0_146 : decode cX7_part0 146 = .ok (.bipush 40, 2) := by decide +kernel
theorem dX7_part0_148 : decode cX7_part0 148 = .ok (.invokevirtual 254, 3) := by decide +kernel
theorem dX7_part0_151 : decode cX7_part0 151 = .ok (.ifCond .eq 12, 3) := by decide +kernel
theorem dX7_part0_154 : decode cX7_part0 154 = .ok (.aload_n 0, 1) := by decide +kernel
theorem dX7_part0_155 : decode cX7_part0 155 = .ok (.getfield 284, 3) := by decide +kernel
theorem dX7_part0_158 : decode cX7_part0 158 = .ok (.bipush 8, 2) := by decide +kernel
theorem dX7_part0_160 : decode cX7_part0 160 = .ok (.if_icmp .ne 5, 3) := by decide +kernel
theorem dX7_part0_163 : decode cX7_part0 163 = .ok (.iconst 0, 1) := by decide +kernel
theorem dX7_part0_164 : decode cX7_part0 164 = .ok (.ireturn, 1) := by decide +kernel
theorem dX7_part0_165 : decode cX7_part0 165 = .ok (.aload_n 0, 1) := by decide +kernel
theorem dX7_part0_166 : decode cX7_part0 166 = .ok (.dup, 1) := by decide +kernel
theorem dX7_part0_167 : decode cX7_part0 167 = .ok (.getfield 284, 3) := by decide +kernel
theorem dX7_part0_170 : decode cX7_part0 170 = .ok (.iconst 1, 1) := by decide +kernel
theorem dX7_part0_171 : decode cX7_part0 171 = .ok (.iadd, 1) := by decide +kernel
theorem dX7_part0_172 : decode cX7_part0 172 = .ok (.putfield 284, 3) := by decide +kernel
theorem dX7_part0_175 : decode cX7_part0 175 = .ok (.aload_n 0, 1) := by decide +kernel
theorem dX7_part0_176 : decode cX7_part0 176 = .ok (.invokevirtual 257, 3) := by decide +kernel
theorem dX7_part0_179 : decode cX7_part0 179 = .ok (.aload_n 0, 1) := by decide +kernel
theorem dX7_part0_180 : decode cX7_part0 180 = .ok (.iload_n 1, 1) := by decide +kernel
theorem dX7_part0_181 : decode cX7_part0 181 = .ok (.invokevirtual 287, 3) := by decide +kernel
theorem dX7_part0_184 : decode cX7_part0 184 = .ok (.ifCond .eq 12, 3) := by decide +kernel
theorem dX7_part0_187 : decode cX7_part0 187 = .ok (.aload_n 0, 1) := by decide +kernel
theorem dX7_part0_188 : decode cX7_part0 188 = .ok (.bipush 41, 2) := by decide +kernel
theorem dX7_part0_190 : decode cX7_part0 190 = .ok (.invokevirtual 254, 3) := by decide +kernel
theorem dX7_part0_193 : decode cX7_part0 193 = .ok (.ifCond .ne 5, 3) := by decide +kernel
theorem dX7_part0_196 : decode cX7_part0 196 = .ok (.iconst 0, 1) := by decide +kernel
theorem dX7_part0_197 : decode cX7_part0 197 = .ok (.ireturn, 1) := by decide +kernel
theorem dX7_part0_198 : decode cX7_part0 198 = .ok (.aload_n 0, 1) := by decide +kernel
theorem dX7_part0_199 : decode cX7_part0 199 = .ok (.dup, 1) := by decide +kernel
theorem dX7_part0_200 : decode cX7_part0 200 = .ok (.getfield 284, 3) := by decide +kernel
theorem dX7_part0_203 : decode cX7_part0 203 = .ok (.iconst 1, 1) := by decide +kernel
theorem dX7_part0_204 : decode cX7_part0 204 = .ok (.isub, 1) := by decide +kernel
theorem dX7_part0_205 : decode cX7_part0 205 = .ok (.putfield 284, 3) := by decide +kernel
theorem dX7_part0_208 : decode cX7_part0 208 = .ok (.aload_n 0, 1) := by decide +kernel
theorem dX7_part0_209 : decode cX7_part0 209 = .ok (.invokevirtual 257, 3) := by decide +kernel
theorem dX7_part0_212 : decode cX7_part0 212 = .ok (.iconst 1, 1) := by decide +kernel
theorem dX7_part0_213 : decode cX7_part0 213 = .ok (.ireturn, 1) := by decide +kernel
theorem dX7_parse_0 : decode cX7_parse 0 = .ok (.aload_n 0, 1) := by decide +kernel
theorem dX7_parse_1 : decode cX7_parse 1 = .ok (.iconst 0, 1) := by decide +kernel
theorem dX7_parse_2 : decode cX7_parse 2 = .ok (.putfield 220, 3) := by decide +kernel
theorem dX7_parse_5 : decode cX7_parse 5 = .ok (.aload_n 0, 1) := by decide +kernel
theorem dX7_parse_6 : decode cX7_parse 6 = .ok (.iconst 3, 1) := by decide +kernel
theorem dX7_parse_7 : decode cX7_parse 7 = .ok (.putfield 223, 3) := by decide +kernel
theorem dX7_parse_10 : decode cX7_parse 10 = .ok (.aload_n 0, 1) := by decide +kernel
theorem dX7_parse_11 : decode cX7_parse 11 = .ok (.iconst 0, 1) := by decide +kernel
theorem dX7_parse_12 : decode cX7_parse 12 = .ok (.putfield 284, 3) := by decide +kernel
theorem dX7_parse_15 : decode cX7_parse 15 = .ok (.aload_n 0, 1) := by decide +kernel
theorem dX7_parse_16 : decode cX7_parse 16 = .ok (.iconst 0, 1) := by decide +kernel
theorem dX7_parse_17 : decode cX7_parse 17 = .ok (.putfield 282, 3) := by decide +kernel
theorem dX7_parse_20 : decode cX7_parse 20 = .ok (.aload_n 0, 1) := by decide +kernel
theorem dX7_parse_21 : decode cX7_parse 21 = .ok (.iconst 0, 1) := by decide +kernel
theorem dX7_parse_22 : decode cX7_parse 22 = .ok (.putfield 248, 3) := by decide +kernel
theorem dX7_parse_25 : decode cX7_parse 25 = .ok (.aload_n 0, 1) := by decide +kernel
theorem dX7_parse_26 : decode cX7_parse 26 = .ok (.iconst 0, 1) := by decide +kernel
theorem dX7_parse_27 : decode cX7_parse 27 = .ok (.putfield 276, 3) := by decide +kernel
theorem dX7_parse_30 : decode cX7_parse 30 = .ok (.aload_n 0, 1) := by decide +kernel
theorem dX7_parse_31 : decode cX7_parse 31 = .ok (.aload_n 0, 1) := by decide +kernel
theorem dX7_parse_32 : decode cX7_parse 32 = .ok (.getfield 7, 3) := by decide +kernel
theorem dX7_parse_35 : decode cX7_parse 35 = .ok (.iconst 1, 1) := by decide +kernel
theorem dX7_parse_36 : decode cX7_parse 36 = .ok (.iaload, 1) := by decide +kernel
theorem dX7_parse_37 : decode cX7_parse 37 = .ok (.bipush 14, 2) := by decide +kernel
theorem dX7_parse_39 : decode cX7_parse 39 = .ok (.if_icmp .ge 18, 3) := by decide +kernel
theorem dX7_parse_42 : decode cX7_parse 42 = .ok (.aload_n 0, 1) := by decide +kernel
theorem dX7_parse_43 : decode cX7_parse 43 = .ok (.aload_n 0, 1) := by decide +kernel
theorem dX7_parse_44 : decode cX7_parse 44 = .ok (.getfield 7, 3) := by decide +kernel
theorem dX7_parse_47 : decode cX7_parse 47 = .ok (.iconst 1, 1) := by decide +kernel
theorem dX7_parse_48 : decode cX7_parse 48 = .ok (.iaload, 1) := by decide +kernel
theorem dX7_parse_49 : decode cX7_parse 49 = .ok (.invokevirtual 290, 3) := by decide +kernel
theorem dX7_parse_52 : decode cX7_parse 52 = .ok (.iconst 4, 1) := by decide +kernel
theorem dX7_parse_53 : decode cX7_parse 53 = .ok (.iadd, 1) := by decide +kernel
theorem dX7_parse_54 : decode cX7_parse 54 = .ok (.goto 6, 3) := by decide +kernel
theorem dX7_parse_57 : decode cX7_parse 57 = .ok (.sipush 2870, 3) := by decide +kernel
theorem dX7_parse_60 : decode cX7_parse 60 = .ok (.putfield 245, 3) := by decide +kernel
theorem dX7_parse_63 : decode cX7_parse 63 = .ok (.aload_n 0, 1) := by decide +kernel
theorem dX7_parse_64 : decode cX7_parse 64 = .ok (.invokevirtual 257, 3) := by decide +kernel
theorem dX7_parse_67 : decode cX7_parse 67 = .ok (.aload_n 0, 1) := by decide +kernel
theorem dX7_parse_68 : decode cX7_parse 68 = .ok (.invokevirtual 293, 3) := by decide +kernel
theorem dX7_parse_71 : decode cX7_parse 71 = .ok (.istore_n 1, 1) := by decide +kernel
theorem dX7_parse_72 : decode cX7_parse 72 = .ok (.iload_n 1, 1) := by decide +kernel
theorem dX7_parse_73 : decode cX7_parse 73 = .ok (.ifCond .lt 7, 3) := by decide +kernel
theorem dX7_parse_76 : decode cX7_parse 76 = .ok (.iconst 1, 1) := by decide +kernel
theorem dX7_parse_77 : decode cX7_parse 77 = .ok (.goto 4, 3) := by decide +kernel
theorem dX7_parse_80 : decode cX7_parse 80 = .ok (.iconst 0, 1) := by decide +kernel
theorem dX7_parse_81 : decode cX7_parse 81 = .ok (.istore_n 2, 1) := by decide +kernel
theorem dX7_parse_82 : decode cX7_parse 82 = .ok (.iload_n 2, 1) := by decide +kernel
theorem dX7_parse_83 : decode cX7_parse 83 = .ok (.ifCond .eq 28, 3) := by decide +kernel
theorem dX7_parse_86 : decode cX7_parse 86 = .ok (.aload_n 0, 1) := by decide +kernel
theorem dX7_parse_87 : decode cX7_parse 87 = .ok (.invokevirtual 257, 3) := by decide +kernel
theorem dX7_parse_90 : decode cX7_parse 90 = .ok (.aload_n 0, 1) := by decide +kernel
theorem dX7_parse_91 : decode cX7_parse 91 = .ok (.iload_n 1, 1) := by decide +kernel
theorem dX7_parse_92 : decode cX7_parse 92 = .ok (.invokevirtual 287, 3) := by decide +kernel
theorem dX7_parse_95 : decode cX7_parse 95 = .ok (.ifCond .eq 14, 3) := by decide +kernel
theorem dX7_parse_98 : decode cX7_parse 98 = .ok (.aload_n 0, 1) := by decide +kernel
theorem dX7_parse_99 : decode cX7_parse 99 = .ok (.getfield 223, 3) := by decide +kernel
theorem dX7_parse_102 : decode cX7_parse 102 = .ok (.ifCond .ne 7, 3) := by decide +kernel
theorem dX7_parse_105 : decode cX7_parse 105 = .ok (.iconst 1, 1) := by decide +kernel
theorem dX7_parse_106 : decode cX7_parse 106 = .ok (.goto 4, 3) := by decide +kernel
theorem dX7_parse_109 : decode cX7_parse 109 = .ok (.iconst 0, 1) := by decide +kernel
theorem dX7_parse_110 : decode cX7_parse 110 = .ok (.istore_n 2, 1) := by decide +kernel
theorem dX7_parse_111 : decode cX7_parse 111 = .ok (.aload_n 0, 1) := by decide +kernel
theorem dX7_parse_112 : decode cX7_parse 112 = .ok (.iconst 0, 1) := by decide +kernel
theorem dX7_parse_113 : decode cX7_parse 113 = .ok (.putfield 209, 3) := by decide +kernel
theorem dX7_parse_116 : decode cX7_parse 116 = .ok (.iload_n 2, 1) := by decide +kernel
theorem dX7_parse_117 : decode cX7_parse 117 = .ok (.ifCond .eq 7, 3) := by decide +kernel
theorem dX7_parse_120 : decode cX7_parse 120 = .ok (.iload_n 1, 1) := by decide +kernel
theorem dX7_parse_121 : decode cX7_parse 121 = .ok (.goto 4, 3) := by decide +kernel
theorem dX7_parse_124 : decode cX7_parse 124 = .ok (.iconst (-1), 1) := by decide +kernel
theorem dX7_parse_125 : decode cX7_parse 125 = .ok (.ireturn, 1) := by decide +kernel
theorem dX7_text_0 : decode cX7_text 0 = .ok (.aload_n 0, 1) := by decide +kernel
theorem dX7_text_1 : decode cX7_text 1 = .ok (.invokevirtual 296, 3) := by decide +kernel
theorem dX7_text_4 : decode cX7_text 4 = .ok (.istore_n 1, 1) := by decide +kernel
theorem dX7_text_5 : decode cX7_text 5 = .ok (.iload_n 1, 1) := by decide +kernel
theorem dX7_text_6 : decode cX7_text 6 = .ok (.ifCond .ge 11, 3) := by decide +kernel
theorem dX7_text_9 : decode cX7_text 9 = .ok (.bipush (-100), 2) := by decide +kernel
theorem dX7_text_11 : decode cX7_text 11 = .ok (.aload_n 0, 1) := by decide +kernel
theorem dX7_text_12 : decode cX7_text 12 = .ok (.getfield 226, 3) := by decide +kernel
theorem dX7_text_15 : decode cX7_text 15 = .ok (.isub, 1) := by decide +kernel
theorem dX7_text_16 : decode cX7_text 16 = .ok (.ireturn, 1) := by decide +kernel
theorem dX7_text_17 : decode cX7_text 17 = .ok (.aload_n 0, 1) := by decide +kernel
theorem dX7_text_18 : decode cX7_text 18 = .ok (.getfield 7, 3) := by decide +kernel
theorem dX7_text_21 : decode cX7_text 21 = .ok (.iconst 1, 1) := by decide +kernel
theorem dX7_text_22 : decode cX7_text 22 = .ok (.iaload, 1) := by decide +kernel
theorem dX7_text_23 : decode cX7_text 23 = .ok (.bipush 14, 2) := by decide +kernel
theorem dX7_text_25 : decode cX7_text 25 = .ok (.if_icmp .ne 6, 3) := by decide +kernel
theorem dX7_text_28 : decode cX7_text 28 = .ok (.ldc 94, 2) := by decide +kernel
theorem dX7_text_30 : decode cX7_text 30 = .ok (.ireturn, 1) := by decide +kernel
theorem dX7_text_31 : decode cX7_text 31 = .ok (.aload_n 0, 1) := by decide +kernel
theorem dX7_text_32 : decode cX7_text 32 = .ok (.aload_n 0, 1) := by decide +kernel
theorem dX7_text_33 : decode cX7_text 33 = .ok (.getfield 7, 3) := by decide +kernel
theorem dX7_text_36 : decode cX7_text 36 = .ok (.iconst 1, 1) := by decide +kernel
theorem dX7_text_37 : decode cX7_text 37 = .ok (.iaload, 1) := by decide +kernel
theorem dX7_text_38 : decode cX7_text 38 = .ok (.invokevirtual 290, 3) := by decide +kernel
theorem dX7_text_41 : decode cX7_text 41 = .ok (.istore_n 2, 1) := by decide +kernel
theorem dX7_text_42 : decode cX7_text 42 = .ok (.aload_n 0, 1) := by decide +kernel
theorem dX7_text_43 : decode cX7_text 43 = .ok (.getfield 7, 3) := by decide +kernel
theorem dX7_text_46 : decode cX7_text 46 = .ok (.iload_n 2, 1) := by decide +kernel
theorem dX7_text_47 : decode cX7_text 47 = .ok (.iconst 0, 1) := by decide +kernel
theorem dX7_text_48 : decode cX7_text 48 = .ok (.iadd, 1) := by decide +kernel
theorem dX7_text_49 : decode cX7_text 49 = .ok (.iload_n 1, 1) := by decide +kernel
theorem dX7_text_50 : decode cX7_text 50 = .ok (.iastore, 1) := by decide +kernel
theorem dX7_text_51 : decode cX7_text 51 = .ok (.aload_n 0, 1) := by decide +kernel
theorem dX7_text_52 : decode cX7_text 52 = .ok (.getfield 7, 3) := by decide +kernel
theorem dX7_text_55 : decode cX7_text 55 = .ok (.iload_n 2, 1) := by decide +kernel
theorem dX7_text_56 : decode cX7_text 56 = .ok (.iconst 1, 1) := by decide +kernel
theorem dX7_text_57 : decode cX7_text 57 = .ok (.iadd, 1) := by decide +kernel
theorem dX7_text_58 : decode cX7_text 58 = .ok (.aload_n 0, 1) := by decide +kernel
theorem dX7_text_59 : decode cX7_text 59 = .ok (.getfield 276, 3) := by decide +kernel
theorem dX7_text_62 : decode cX7_text 62 = .ok (.iastore, 1) := by decide +kernel
theorem dX7_text_63 : decode cX7_text 63 = .ok (.aload_n 0, 1) := by decide +kernel
theorem dX7_text_64 : decode cX7_text 64 = .ok (.getfield 7, 3) := by decide +kernel
theorem dX7_text_67 : decode cX7_text 67 = .ok (.iload_n 2, 1) := by decide +kernel
theorem dX7_text_68 : decode cX7_text 68 = .ok (.iconst 2, 1) := by decide +kernel
theorem dX7_text_69 : decode cX7_text 69 = .ok (.iadd, 1) := by decide +kernel
theorem dX7_text_70 : decode cX7_text 70 = .ok (.aload_n 0, 1) := by decide +kernel
theorem dX7_text_71 : decode cX7_text 71 = .ok (.getfield 248, 3) := by decide +kernel
theorem dX7_text_74 : decode cX7_text 74 = .ok (.iastore, 1) := by decide +kernel
theorem dX7_text_75 : decode cX7_text 75 = .ok (.aload_n 0, 1) := by decide +kernel
theorem dX7_text_76 : decode cX7_text 76 = .ok (.getfield 7, 3) := by decide +kernel
theorem dX7_text_79 : decode cX7_text 79 = .ok (.iconst 1, 1) := by decide +kernel
theorem dX7_text_80 : decode cX7_text 80 = .ok (.dup2, 1) := by decide +kernel
theorem dX7_text_81 : decode cX7_text 81 = .ok (.iaload, 1) := by decide +kernel
theorem dX7_text_82 : decode cX7_text 82 = .ok (.iconst 1, 1) := by decide +kernel
theorem dX7_text_83 : decode cX7_text 83 = .ok (.iadd, 1) := by decide +kernel
theorem dX7_text_84 : decode cX7_text 84 = .ok (.iastore, 1) := by decide +kernel
theorem dX7_text_85 : decode cX7_text 85 = .ok (.aload_n 0, 1) := by decide +kernel
theorem dX7_text_86 : decode cX7_text 86 = .ok (.getfield 7, 3) := by decide +kernel
theorem dX7_text_89 : decode cX7_text 89 = .ok (.iconst 1, 1) := by decide +kernel
theorem dX7_text_90 : decode cX7_text 90 = .ok (.iaload, 1) := by decide +kernel
theorem dX7_text_91 : decode cX7_text 91 = .ok (.iconst 1, 1) := by decide +kernel
theorem dX7_text_92 : decode cX7_text 92 = .ok (.isub, 1) := by decide +kernel
theorem dX7_text_93 : decode cX7_text 93 = .ok (.ireturn, 1) := by decide +kernel
theorem dX7_textTold_0 : decode cX7_textTold 0 = .ok (.aload_n 0, 1) := by decide +kernel
theorem dX7_textTold_1 : decode cX7_textTold 1 = .ok (.iload_n 1, 1) := by decide +kernel
theorem dX7_textTold_2 : decode cX7_textTold 2 = .ok (.invokevirtual 299, 3) := by decide +kernel
theorem dX7_textTold_5 : decode cX7_textTold 5 = .ok (.ifCond .eq 13, 3) := by decide +kernel
theorem dX7_textTold_8 : decode cX7_textTold 8 = .ok (.iload_n 2, 1) := by decide +kernel
theorem dX7_textTold_9 : decode cX7_textTold 9 = .ok (.i2l, 1) := by decide +kernel
theorem dX7_textTold_10 : decode cX7_textTold 10 = .ok (.lconst 0, 1) := by decide +kernel
theorem dX7_textTold_11 : decode cX7_textTold 11 = .ok (.lconst 1, 1) := by decide +kernel
theorem dX7_textTold_12 : decode cX7_textTold 12 = .ok (.invokestatic 76, 3) := by decide +kernel
theorem dX7_textTold_15 : decode cX7_textTold 15 = .ok (.ifCond .ne 6, 3) := by decide +kernel
theorem dX7_textTold_18 : decode cX7_textTold 18 = .ok (.ldc 93, 2) := by decide +kernel
theorem dX7_textTold_20 : decode cX7_textTold 20 = .ok (.ireturn, 1) := by decide +kernel
theorem dX7_textTold_21 : decode cX7_textTold 21 = .ok (.aload_n 0, 1) := by decide +kernel
theorem dX7_textTold_22 : decode cX7_textTold 22 = .ok (.getfield 7, 3) := by decide +kernel
theorem dX7_textTold_25 : decode cX7_textTold 25 = .ok (.aload_n 0, 1) := by decide +kernel
theorem dX7_textTold_26 : decode cX7_textTold 26 = .ok (.iload_n 1, 1) := by decide +kernel
theorem dX7_textTold_27 : decode cX7_textTold 27 = .ok (.invokevirtual 290, 3) := by decide +kernel
theorem dX7_textTold_30 : decode cX7_textTold 30 = .ok (.iload_n 2, 1) := by decide +kernel
theorem dX7_textTold_31 : decode cX7_textTold 31 = .ok (.iadd, 1) := by decide +kernel
theorem dX7_textTold_32 : decode cX7_textTold 32 = .ok (.iaload, 1) := by decide +kernel
theorem dX7_textTold_33 : decode cX7_textTold 33 = .ok (.ireturn, 1) := by decide +kernel
theorem dX7_counts_0 : decode cX7_counts 0 = .ok (.iconst (-1), 1) := by decide +kernel
theorem dX7_counts_1 : decode cX7_counts 1 = .ok (.istore_n 2, 1) := by decide +kernel
theorem dX7_counts_2 : decode cX7_counts 2 = .ok (.iconst 0, 1) := by decide +kernel
theorem dX7_counts_3 : decode cX7_counts 3 = .ok (.istore_n 3, 1) := by decide +kernel
theorem dX7_counts_4 : decode cX7_counts 4 = .ok (.iload_n 3, 1) := by decide +kernel
theorem dX7_counts_5 : decode cX7_counts 5 = .ok (.aload_n 0, 1) := by decide +kernel
theorem dX7_counts_6 : decode cX7_counts 6 = .ok (.getfield 7, 3) := by decide +kernel
theorem dX7_counts_9 : decode cX7_counts 9 = .ok (.iconst 1, 1) := by decide +kernel
theorem dX7_counts_10 : decode cX7_counts 10 = .ok (.iaload, 1) := by decide +kernel
theorem dX7_counts_11 : decode cX7_counts 11 = .ok (.if_icmp .ge 29, 3) := by decide +kernel
theorem dX7_counts_14 : decode cX7_counts 14 = .ok (.aload_n 0, 1) := by decide +kernel
theorem dX7_counts_15 : decode cX7_counts 15 = .ok (.getfield 7, 3) := by decide +kernel
theorem dX7_counts_18 : decode cX7_counts 18 = .ok (.aload_n 0, 1) := by decide +kernel
theorem dX7_counts_19 : decode cX7_counts 19 = .ok (.iload_n 3, 1) := by decide +kernel
theorem dX7_counts_20 : decode cX7_counts 20 = .ok (.invokevirtual 290, 3) := by decide +kernel
theorem dX7_counts_23 : decode cX7_counts 23 = .ok (.iaload, 1) := by decide +kernel
theorem dX7_counts_24 : decode cX7_counts 24 = .ok (.iload_n 1, 1) := by decide +kernel
theorem dX7_counts_25 : decode cX7_counts 25 = .ok (.if_icmp .ne 7, 3) := by decide +kernel
theorem dX7_counts_28 : decode cX7_counts 28 = .ok (.iload_n 3, 1) := by decide +kernel
theorem dX7_counts_29 : decode cX7_counts 29 = .ok (.goto 4, 3) := by decide +kernel
theorem dX7_counts_32 : decode cX7_counts 32 = .ok (.iload_n 2, 1) := by decide +kernel
theorem dX7_counts_33 : decode cX7_counts 33 = .ok (.istore_n 2, 1) := by decide +kernel
theorem dX7_counts_34 : decode cX7_counts 34 = .ok (.iinc 3 1, 3) := by decide +kernel
theorem dX7_counts_37 : decode cX7_counts 37 = .ok (.goto (-33), 3) := by decide +kernel
theorem dX7_counts_40 : decode cX7_counts 40 = .ok (.iload_n 2, 1) := by decide +kernel
theorem dX7_counts_41 : decode cX7_counts 41 = .ok (.ireturn, 1) := by decide +kernel
theorem dX7_why_0 : decode cX7_why 0 = .ok (.iload_n 1, 1) := by decide +kernel
theorem dX7_why_1 : decode cX7_why 1 = .ok (.i2l, 1) := by decide +kernel
theorem dX7_why_2 : decode cX7_why 2 = .ok (.lconst 0, 1) := by decide +kernel
theorem dX7_why_3 : decode cX7_why 3 = .ok (.ldc2_w 302, 3) := by decide +kernel
theorem dX7_why_6 : decode cX7_why 6 = .ok (.invokestatic 76, 3) := by decide +kernel
theorem dX7_why_9 : decode cX7_why 9 = .ok (.ifCond .eq 14, 3) := by decide +kernel
theorem dX7_why_12 : decode cX7_why 12 = .ok (.aload_n 0, 1) := by decide +kernel
theorem dX7_why_13 : decode cX7_why 13 = .ok (.iload_n 1, 1) := by decide +kernel
theorem dX7_why_14 : decode cX7_why 14 = .ok (.invokevirtual 99, 3) := by decide +kernel
theorem dX7_why_17 : decode cX7_why 17 = .ok (.invokestatic 183, 3) := by decide +kernel
theorem dX7_why_20 : decode cX7_why 20 = .ok (.goto 5, 3) := by decide +kernel
theorem dX7_why_23 : decode cX7_why 23 = .ok (.ldc 93, 2) := by decide +kernel
theorem dX7_why_25 : decode cX7_why 25 = .ok (.ireturn, 1) := by decide +kernel
theorem dX7_joined_0 : decode cX7_joined 0 = .ok (.iload_n 0, 1) := by decide +kernel
theorem dX7_joined_1 : decode cX7_joined 1 = .ok (.tableswitch 196 38 62 #[182, 196, 196, 196, 123, 115, 196, 119, 196, 127, 196, 196, 196, 196, 196, 196, 196, 196, 196, 196, 196, 196, 149, 171, 160], 115) := by decide +kernel
theorem dX7_joined_116 : decode cX7_joined 116 = .ok (.iload_n 1, 1) := by decide +kernel
theorem dX7_joined_117 : decode cX7_joined 117 = .ok (.iload_n 2, 1) := by decide +kernel
theorem dX7_joined_118 : decode cX7_joined 118 = .ok (.iadd, 1) := by decide +kernel
theorem dX7_joined_119 : decode cX7_joined 119 = .ok (.ireturn, 1) := by decide +kernel
theorem dX7_joined_120 : decode cX7_joined 120 = .ok (.iload_n 1, 1) := by decide +kernel
theorem dX7_joined_121 : decode cX7_joined 121 = .ok (.iload_n 2, 1) := by decide +kernel
theorem dX7_joined_122 : decode cX7_joined 122 = .ok (.isub, 1) := by decide +kernel
theorem dX7_joined_123 : decode cX7_joined 123 = .ok (.ireturn, 1) := by decide +kernel
theorem dX7_joined_124 : decode cX7_joined 124 = .ok (.iload_n 1, 1) := by decide +kernel
theorem dX7_joined_125 : decode cX7_joined 125 = .ok (.iload_n 2, 1) := by decide +kernel
theorem dX7_joined_126 : decode cX7_joined 126 = .ok (.imul, 1) := by decide +kernel
theorem dX7_joined_127 : decode cX7_joined 127 = .ok (.ireturn, 1) := by decide +kernel
theorem dX7_joined_128 : decode cX7_joined 128 = .ok (.iload_n 2, 1) := by decide +kernel
theorem dX7_joined_129 : decode cX7_joined 129 = .ok (.ifCond .ne 7, 3) := by decide +kernel
theorem dX7_joined_132 : decode cX7_joined 132 = .ok (.iconst 0, 1) := by decide +kernel
theorem dX7_joined_133 : decode cX7_joined 133 = .ok (.goto 16, 3) := by decide +kernel
theorem dX7_joined_136 : decode cX7_joined 136 = .ok (.iload_n 2, 1) := by decide +kernel
theorem dX7_joined_137 : decode cX7_joined 137 = .ok (.iconst (-1), 1) := by decide +kernel
theorem dX7_joined_138 : decode cX7_joined 138 = .ok (.if_icmp .ne 8, 3) := by decide +kernel
theorem dX7_joined_141 : decode cX7_joined 141 = .ok (.iload_n 1, 1) := by decide +kernel
theorem dX7_joined_142 : decode cX7_joined 142 = .ok (.ineg, 1) := by decide +kernel
theorem dX7_joined_143 : decode cX7_joined 143 = .ok (.goto 6, 3) := by decide +kernel
theorem dX7_joined_146 : decode cX7_joined 146 = .ok (.iload_n 1, 1) := by decide +kernel
theorem dX7_joined_147 : decode cX7_joined 147 = .ok (.iload_n 2, 1) := by decide +kernel
theorem dX7_joined_148 : decode cX7_joined 148 = .ok (.idiv, 1) := by decide +kernel
theorem dX7_joined_149 : decode cX7_joined 149 = .ok (.ireturn, 1) := by decide +kernel
theorem dX7_joined_150 : decode cX7_joined 150 = .ok (.iload_n 1, 1) := by decide +kernel
theorem dX7_joined_151 : decode cX7_joined 151 = .ok (.iload_n 2, 1) := by decide +kernel
theorem dX7_joined_152 : decode cX7_joined 152 = .ok (.if_icmp .ge 7, 3) := by decide +kernel
theorem dX7_joined_155 : decode cX7_joined 155 = .ok (.iconst 1, 1) := by decide +kernel
theorem dX7_joined_156 : decode cX7_joined 156 = .ok (.goto 4, 3) := by decide +kernel
theorem dX7_joined_159 : decode cX7_joined 159 = .ok (.iconst 0, 1) := by decide +kernel
theorem dX7_joined_160 : decode cX7_joined 160 = .ok (.ireturn, 1) := by decide +kernel
theorem dX7_joined_161 : decode cX7_joined 161 = .ok (.iload_n 1, 1) := by decide +kernel
theorem dX7_joined_162 : decode cX7_joined 162 = .ok (.iload_n 2, 1) := by decide +kernel
theorem dX7_joined_163 : decode cX7_joined 163 = .ok (.if_icmp .le 7, 3) := by decide +kernel
theorem dX7_joined_166 : decode cX7_joined 166 = .ok (.iconst 1, 1) := by decide +kernel
theorem dX7_joined_167 : decode cX7_joined 167 = .ok (.goto 4, 3) := by decide +kernel
theorem dX7_joined_170 : decode cX7_joined 170 = .ok (.iconst 0, 1) := by decide +kernel
theorem dX7_joined_171 : decode cX7_joined 171 = .ok (.ireturn, 1) := by decide +kernel
theorem dX7_joined_172 : decode cX7_joined 172 = .ok (.iload_n 1, 1) := by decide +kernel
theorem dX7_joined_173 : decode cX7_joined 173 = .ok (.iload_n 2, 1) := by decide +kernel
theorem dX7_joined_174 : decode cX7_joined 174 = .ok (.if_icmp .ne 7, 3) := by decide +kernel
theorem dX7_joined_177 : decode cX7_joined 177 = .ok (.iconst 1, 1) := by decide +kernel
theorem dX7_joined_178 : decode cX7_joined 178 = .ok (.goto 4, 3) := by decide +kernel
theorem dX7_joined_181 : decode cX7_joined 181 = .ok (.iconst 0, 1) := by decide +kernel
theorem dX7_joined_182 : decode cX7_joined 182 = .ok (.ireturn, 1) := by decide +kernel
theorem dX7_joined_183 : decode cX7_joined 183 = .ok (.iload_n 1, 1) := by decide +kernel
theorem dX7_joined_184 : decode cX7_joined 184 = .ok (.ifCond .eq 11, 3) := by decide +kernel
theorem dX7_joined_187 : decode cX7_joined 187 = .ok (.iload_n 2, 1) := by decide +kernel
theorem dX7_joined_188 : decode cX7_joined 188 = .ok (.ifCond .eq 7, 3) := by decide +kernel
theorem dX7_joined_191 : decode cX7_joined 191 = .ok (.iconst 1, 1) := by decide +kernel
theorem dX7_joined_192 : decode cX7_joined 192 = .ok (.goto 4, 3) := by decide +kernel
theorem dX7_joined_195 : decode cX7_joined 195 = .ok (.iconst 0, 1) := by decide +kernel
theorem dX7_joined_196 : decode cX7_joined 196 = .ok (.ireturn, 1) := by decide +kernel
theorem dX7_joined_197 : decode cX7_joined 197 = .ok (.iload_n 1, 1) := by decide +kernel
theorem dX7_joined_198 : decode cX7_joined 198 = .ok (.ifCond .ne 7, 3) := by decide +kernel
theorem dX7_joined_201 : decode cX7_joined 201 = .ok (.iload_n 2, 1) := by decide +kernel
theorem dX7_joined_202 : decode cX7_joined 202 = .ok (.ifCond .eq 7, 3) := by decide +kernel
theorem dX7_joined_205 : decode cX7_joined 205 = .ok (.iconst 1, 1) := by decide +kernel
theorem dX7_joined_206 : decode cX7_joined 206 = .ok (.goto 4, 3) := by decide +kernel
theorem dX7_joined_209 : decode cX7_joined 209 = .ok (.iconst 0, 1) := by decide +kernel
theorem dX7_joined_210 : decode cX7_joined 210 = .ok (.ireturn, 1) := by decide +kernel
theorem dX7_worked_0 : decode cX7_worked 0 = .ok (.iconst 0, 1) := by decide +kernel
theorem dX7_worked_1 : decode cX7_worked 1 = .ok (.istore_n 2, 1) := by decide +kernel
theorem dX7_worked_2 : decode cX7_worked 2 = .ok (.iconst 0, 1) := by decide +kernel
theorem dX7_worked_3 : decode cX7_worked 3 = .ok (.istore_n 3, 1) := by decide +kernel
theorem dX7_worked_4 : decode cX7_worked 4 = .ok (.iload_n 3, 1) := by decide +kernel
theorem dX7_worked_5 : decode cX7_worked 5 = .ok (.aload_n 0, 1) := by decide +kernel
theorem dX7_worked_6 : decode cX7_worked 6 = .ok (.getfield 7, 3) := by decide +kernel
theorem dX7_worked_9 : decode cX7_worked 9 = .ok (.aload_n 0, 1) := by decide +kernel
theorem dX7_worked_10 : decode cX7_worked 10 = .ok (.iload_n 1, 1) := by decide +kernel
theorem dX7_worked_11 : decode cX7_worked 11 = .ok (.invokevirtual 290, 3) := by decide +kernel
theorem dX7_worked_14 : decode cX7_worked 14 = .ok (.iconst 2, 1) := by decide +kernel
theorem dX7_worked_15 : decode cX7_worked 15 = .ok (.iadd, 1) := by decide +kernel
theorem dX7_worked_16 : decode cX7_worked 16 = .ok (.iaload, 1) := by decide +kernel
theorem dX7_worked_17 : decode cX7_worked 17 = .ok (.if_icmp .ge 146, 3) := by decide +kernel
theorem dX7_worked_20 : decode cX7_worked 20 = .ok (.aload_n 0, 1) := by decide +kernel
theorem dX7_worked_21 : decode cX7_worked 21 = .ok (.getfield 7, 3) := by decide +kernel
theorem dX7_worked_24 : decode cX7_worked 24 = .ok (.aload_n 0, 1) := by decide +kernel
theorem dX7_worked_25 : decode cX7_worked 25 = .ok (.iload_n 1, 1) := by decide +kernel
theorem dX7_worked_26 : decode cX7_worked 26 = .ok (.invokevirtual 290, 3) := by decide +kernel
theorem dX7_worked_29 : decode cX7_worked 29 = .ok (.iconst 4, 1) := by decide +kernel
theorem dX7_worked_30 : decode cX7_worked 30 = .ok (.iadd, 1) := by decide +kernel
theorem dX7_worked_31 : decode cX7_worked 31 = .ok (.iconst 2, 1) := by decide +kernel
theorem dX7_worked_32 : decode cX7_worked 32 = .ok (.iload_n 3, 1) := by decide +kernel
theorem dX7_worked_33 : decode cX7_worked 33 = .ok (.imul, 1) := by decide +kernel
theorem dX7_worked_34 : decode cX7_worked 34 = .ok (.iadd, 1) := by decide +kernel
theorem dX7_worked_35 : decode cX7_worked 35 = .ok (.iaload, 1) := by decide +kernel
theorem dX7_worked_36 : decode cX7_worked 36 = .ok (.istore 4, 2) := by decide +kernel
theorem dX7_worked_38 : decode cX7_worked 38 = .ok (.aload_n 0, 1) := by decide +kernel
theorem dX7_worked_39 : decode cX7_worked 39 = .ok (.getfield 7, 3) := by decide +kernel
theorem dX7_worked_42 : decode cX7_worked 42 = .ok (.aload_n 0, 1) := by decide +kernel
theorem dX7_worked_43 : decode cX7_worked 43 = .ok (.iload_n 1, 1) := by decide +kernel
theorem dX7_worked_44 : decode cX7_worked 44 = .ok (.invokevirtual 290, 3) := by decide +kernel
theorem dX7_worked_47 : decode cX7_worked 47 = .ok (.iconst 4, 1) := by decide +kernel
theorem dX7_worked_48 : decode cX7_worked 48 = .ok (.iadd, 1) := by decide +kernel
theorem dX7_worked_49 : decode cX7_worked 49 = .ok (.iconst 2, 1) := by decide +kernel
theorem dX7_worked_50 : decode cX7_worked 50 = .ok (.iload_n 3, 1) := by decide +kernel
theorem dX7_worked_51 : decode cX7_worked 51 = .ok (.imul, 1) := by decide +kernel
theorem dX7_worked_52 : decode cX7_worked 52 = .ok (.iadd, 1) := by decide +kernel
theorem dX7_worked_53 : decode cX7_worked 53 = .ok (.iconst 1, 1) := by decide +kernel
theorem dX7_worked_54 : decode cX7_worked 54 = .ok (.iadd, 1) := by decide +kernel
theorem dX7_worked_55 : decode cX7_worked 55 = .ok (.iaload, 1) := by decide +kernel
theorem dX7_worked_56 : decode cX7_worked 56 = .ok (.istore 5, 2) := by decide +kernel
theorem dX7_worked_58 : decode cX7_worked 58 = .ok (.iload 4, 2) := by decide +kernel
theorem dX7_worked_60 : decode cX7_worked 60 = .ok (.iconst 2, 1) := by decide +kernel
theorem dX7_worked_61 : decode cX7_worked 61 = .ok (.if_icmp .eq 32, 3) := by decide +kernel
theorem dX7_worked_64 : decode cX7_worked 64 = .ok (.aload_n 0, 1) := by decide +kernel
theorem dX7_worked_65 : decode cX7_worked 65 = .ok (.getfield 59, 3) := by decide +kernel
theorem dX7_worked_68 : decode cX7_worked 68 = .ok (.iload_n 2, 1) := by decide +kernel
theorem dX7_worked_69 : decode cX7_worked 69 = .ok (.iload 4, 2) := by decide +kernel
theorem dX7_worked_71 : decode cX7_worked 71 = .ok (.ifCond .ne 8, 3) := by decide +kernel
theorem dX7_worked_74 : decode cX7_worked 74 = .ok (.iload 5, 2) := by decide +kernel
theorem dX7_worked_76 : decode cX7_worked 76 = .ok (.goto 10, 3) := by decide +kernel
theorem dX7_worked_79 : decode cX7_worked 79 = .ok (.aload_n 0, 1) := by decide +kernel
theorem dX7_worked_80 : decode cX7_worked 80 = .ok (.getfield 56, 3) := by decide +kernel
theorem dX7_worked_83 : decode cX7_worked 83 = .ok (.iload 5, 2) := by decide +kernel
theorem dX7_worked_85 : decode cX7_worked 85 = .ok (.iaload, 1) := by decide +kernel
theorem dX7_worked_86 : decode cX7_worked 86 = .ok (.iastore, 1) := by decide +kernel
theorem dX7_worked_87 : decode cX7_worked 87 = .ok (.iinc 2 1, 3) := by decide +kernel
theorem dX7_worked_90 : decode cX7_worked 90 = .ok (.goto 67, 3) := by decide +kernel
theorem dX7_worked_93 : decode cX7_worked 93 = .ok (.iload 5, 2) := by decide +kernel
theorem dX7_worked_95 : decode cX7_worked 95 = .ok (.bipush 33, 2) := by decide +kernel
theorem dX7_worked_97 : decode cX7_worked 97 = .ok (.if_icmp .ne 30, 3) := by decide +kernel
theorem dX7_worked_100 : decode cX7_worked 100 = .ok (.aload_n 0, 1) := by decide +kernel
theorem dX7_worked_101 : decode cX7_worked 101 = .ok (.getfield 59, 3) := by decide +kernel
theorem dX7_worked_104 : decode cX7_worked 104 = .ok (.iload_n 2, 1) := by decide +kernel
theorem dX7_worked_105 : decode cX7_worked 105 = .ok (.iconst 1, 1) := by decide +kernel
theorem dX7_worked_106 : decode cX7_worked 106 = .ok (.isub, 1) := by decide +kernel
theorem dX7_worked_107 : decode cX7_worked 107 = .ok (.aload_n 0, 1) := by decide +kernel
theorem dX7_worked_108 : decode cX7_worked 108 = .ok (.getfield 59, 3) := by decide +kernel
theorem dX7_worked_111 : decode cX7_worked 111 = .ok (.iload_n 2, 1) := by decide +kernel
theorem dX7_worked_112 : decode cX7_worked 112 = .ok (.iconst 1, 1) := by decide +kernel
theorem dX7_worked_113 : decode cX7_worked 113 = .ok (.isub, 1) := by decide +kernel
theorem dX7_worked_114 : decode cX7_worked 114 = .ok (.iaload, 1) := by decide +kernel
theorem dX7_worked_115 : decode cX7_worked 115 = .ok (.ifCond .ne 7, 3) := by decide +kernel
theorem dX7_worked_118 : decode cX7_worked 118 = .ok (.iconst 1, 1) := by decide +kernel
theorem dX7_worked_119 : decode cX7_worked 119 = .ok (.goto 4, 3) := by decide +kernel
theorem dX7_worked_122 : decode cX7_worked 122 = .ok (.iconst 0, 1) := by decide +kernel
theorem dX7_worked_123 : decode cX7_worked 123 = .ok (.iastore, 1) := by decide +kernel
theorem dX7_worked_124 : decode cX7_worked 124 = .ok (.goto 33, 3) := by decide +kernel
theorem dX7_worked_127 : decode cX7_worked 127 = .ok (.iinc 2 (-1), 3) := by decide +kernel
theorem dX7_worked_130 : decode cX7_worked 130 = .ok (.aload_n 0, 1) := by decide +kernel
theorem dX7_worked_131 : decode cX7_worked 131 = .ok (.getfield 59, 3) := by decide +kernel
theorem dX7_worked_134 : decode cX7_worked 134 = .ok (.iload_n 2, 1) := by decide +kernel
theorem dX7_worked_135 : decode cX7_worked 135 = .ok (.iconst 1, 1) := by decide +kernel
theorem dX7_worked_136 : decode cX7_worked 136 = .ok (.isub, 1) := by decide +kernel
theorem dX7_worked_137 : decode cX7_worked 137 = .ok (.iload 5, 2) := by decide +kernel
theorem dX7_worked_139 : decode cX7_worked 139 = .ok (.aload_n 0, 1) := by decide +kernel
theorem dX7_worked_140 : decode cX7_worked 140 = .ok (.getfield 59, 3) := by decide +kernel
theorem dX7_worked_143 : decode cX7_worked 143 = .ok (.iload_n 2, 1) := by decide +kernel
theorem dX7_worked_144 : decode cX7_worked 144 = .ok (.iconst 1, 1) := by decide +kernel
theorem dX7_worked_145 : decode cX7_worked 145 = .ok (.isub, 1) := by decide +kernel
theorem dX7_worked_146 : decode cX7_worked 146 = .ok (.iaload, 1) := by decide +kernel
theorem dX7_worked_147 : decode cX7_worked 147 = .ok (.aload_n 0, 1) := by decide +kernel
theorem dX7_worked_148 : decode cX7_worked 148 = .ok (.getfield 59, 3) := by decide +kernel
theorem dX7_worked_151 : decode cX7_worked 151 = .ok (.iload_n 2, 1) := by decide +kernel
theorem dX7_worked_152 : decode cX7_worked 152 = .ok (.iaload, 1) := by decide +kernel
theorem dX7_worked_153 : decode cX7_worked 153 = .ok (.invokestatic 304, 3) := by decide +kernel
theorem dX7_worked_156 : decode cX7_worked 156 = .ok (.iastore, 1) := by decide +kernel
theorem dX7_worked_157 : decode cX7_worked 157 = .ok (.iinc 3 1, 3) := by decide +kernel
theorem dX7_worked_160 : decode cX7_worked 160 = .ok (.goto (-156), 3) := by decide +kernel
theorem dX7_worked_163 : decode cX7_worked 163 = .ok (.aload_n 0, 1) := by decide +kernel
theorem dX7_worked_164 : decode cX7_worked 164 = .ok (.getfield 59, 3) := by decide +kernel
theorem dX7_worked_167 : decode cX7_worked 167 = .ok (.iconst 0, 1) := by decide +kernel
theorem dX7_worked_168 : decode cX7_worked 168 = .ok (.iaload, 1) := by decide +kernel
theorem dX7_worked_169 : decode cX7_worked 169 = .ok (.ireturn, 1) := by decide +kernel
theorem dX7_isSheet_0 : decode cX7_isSheet 0 = .ok (.iload_n 0, 1) := by decide +kernel
theorem dX7_isSheet_1 : decode cX7_isSheet 1 = .ok (.i2l, 1) := by decide +kernel
theorem dX7_isSheet_2 : decode cX7_isSheet 2 = .ok (.lconst 0, 1) := by decide +kernel
theorem dX7_isSheet_3 : decode cX7_isSheet 3 = .ok (.ldc2_w 307, 3) := by decide +kernel
theorem dX7_isSheet_6 : decode cX7_isSheet 6 = .ok (.invokestatic 76, 3) := by decide +kernel
theorem dX7_isSheet_9 : decode cX7_isSheet 9 = .ok (.ireturn, 1) := by decide +kernel
theorem dX7_sheet_0 : decode cX7_sheet 0 = .ok (.iload_n 1, 1) := by decide +kernel
theorem dX7_sheet_1 : decode cX7_sheet 1 = .ok (.invokestatic 309, 3) := by decide +kernel
theorem dX7_sheet_4 : decode cX7_sheet 4 = .ok (.ifCond .eq 25, 3) := by decide +kernel
theorem dX7_sheet_7 : decode cX7_sheet 7 = .ok (.iload_n 2, 1) := by decide +kernel
theorem dX7_sheet_8 : decode cX7_sheet 8 = .ok (.i2l, 1) := by decide +kernel
theorem dX7_sheet_9 : decode cX7_sheet 9 = .ok (.ldc2_w 312, 3) := by decide +kernel
theorem dX7_sheet_12 : decode cX7_sheet 12 = .ok (.lconst 1, 1) := by decide +kernel
theorem dX7_sheet_13 : decode cX7_sheet 13 = .ok (.invokestatic 76, 3) := by decide +kernel
theorem dX7_sheet_16 : decode cX7_sheet 16 = .ok (.ifCond .eq 13, 3) := by decide +kernel
theorem dX7_sheet_19 : decode cX7_sheet 19 = .ok (.iload_n 2, 1) := by decide +kernel
theorem dX7_sheet_20 : decode cX7_sheet 20 = .ok (.ifCond .lt 12, 3) := by decide +kernel
theorem dX7_sheet_23 : decode cX7_sheet 23 = .ok (.iload_n 3, 1) := by decide +kernel
theorem dX7_sheet_24 : decode cX7_sheet 24 = .ok (.bipush 24, 2) := by decide +kernel
theorem dX7_sheet_26 : decode cX7_sheet 26 = .ok (.if_icmp .le 6, 3) := by decide +kernel
theorem dX7_sheet_29 : decode cX7_sheet 29 = .ok (.ldc 93, 2) := by decide +kernel
theorem dX7_sheet_31 : decode cX7_sheet 31 = .ok (.ireturn, 1) := by decide +kernel
theorem dX7_sheet_32 : decode cX7_sheet 32 = .ok (.iload_n 2, 1) := by decide +kernel
theorem dX7_sheet_33 : decode cX7_sheet 33 = .ok (.ifCond .lt 11, 3) := by decide +kernel
theorem dX7_sheet_36 : decode cX7_sheet 36 = .ok (.iload_n 3, 1) := by decide +kernel
theorem dX7_sheet_37 : decode cX7_sheet 37 = .ok (.ifCond .ge 7, 3) := by decide +kernel
theorem dX7_sheet_40 : decode cX7_sheet 40 = .ok (.ldc_w 314, 3) := by decide +kernel
theorem dX7_sheet_43 : decode cX7_sheet 43 = .ok (.ireturn, 1) := by decide +kernel
theorem dX7_sheet_44 : decode cX7_sheet 44 = .ok (.aload_n 0, 1) := by decide +kernel
theorem dX7_sheet_45 : decode cX7_sheet 45 = .ok (.getfield 19, 3) := by decide +kernel
theorem dX7_sheet_48 : decode cX7_sheet 48 = .ok (.iload_n 1, 1) := by decide +kernel
theorem dX7_sheet_49 : decode cX7_sheet 49 = .ok (.iload_n 2, 1) := by decide +kernel
theorem dX7_sheet_50 : decode cX7_sheet 50 = .ok (.iastore, 1) := by decide +kernel
theorem dX7_sheet_51 : decode cX7_sheet 51 = .ok (.aload_n 0, 1) := by decide +kernel
theorem dX7_sheet_52 : decode cX7_sheet 52 = .ok (.getfield 22, 3) := by decide +kernel
theorem dX7_sheet_55 : decode cX7_sheet 55 = .ok (.iload_n 1, 1) := by decide +kernel
theorem dX7_sheet_56 : decode cX7_sheet 56 = .ok (.iload_n 2, 1) := by decide +kernel
theorem dX7_sheet_57 : decode cX7_sheet 57 = .ok (.ifCond .ge 7, 3) := by decide +kernel
theorem dX7_sheet_60 : decode cX7_sheet 60 = .ok (.iconst 0, 1) := by decide +kernel
theorem dX7_sheet_61 : decode cX7_sheet 61 = .ok (.goto 4, 3) := by decide +kernel
theorem dX7_sheet_64 : decode cX7_sheet 64 = .ok (.iload_n 3, 1) := by decide +kernel
theorem dX7_sheet_65 : decode cX7_sheet 65 = .ok (.iastore, 1) := by decide +kernel
theorem dX7_sheet_66 : decode cX7_sheet 66 = .ok (.iconst 0, 1) := by decide +kernel
theorem dX7_sheet_67 : decode cX7_sheet 67 = .ok (.istore 4, 2) := by decide +kernel
theorem dX7_sheet_69 : decode cX7_sheet 69 = .ok (.iload 4, 2) := by decide +kernel
theorem dX7_sheet_71 : decode cX7_sheet 71 = .ok (.bipush 24, 2) := by decide +kernel
theorem dX7_sheet_73 : decode cX7_sheet 73 = .ok (.if_icmp .ge 22, 3) := by decide +kernel
theorem dX7_sheet_76 : decode cX7_sheet 76 = .ok (.aload_n 0, 1) := by decide +kernel
theorem dX7_sheet_77 : decode cX7_sheet 77 = .ok (.getfield 25, 3) := by decide +kernel
theorem dX7_sheet_80 : decode cX7_sheet 80 = .ok (.bipush 24, 2) := by decide +kernel
theorem dX7_sheet_82 : decode cX7_sheet 82 = .ok (.iload_n 1, 1) := by decide +kernel
theorem dX7_sheet_83 : decode cX7_sheet 83 = .ok (.imul, 1) := by decide +kernel
theorem dX7_sheet_84 : decode cX7_sheet 84 = .ok (.iload 4, 2) := by decide +kernel
theorem dX7_sheet_86 : decode cX7_sheet 86 = .ok (.iadd, 1) := by decide +kernel
theorem dX7_sheet_87 : decode cX7_sheet 87 = .ok (.iconst 0, 1) := by decide +kernel
theorem dX7_sheet_88 : decode cX7_sheet 88 = .ok (.iastore, 1) := by decide +kernel
theorem dX7_sheet_89 : decode cX7_sheet 89 = .ok (.iinc 4 1, 3) := by decide +kernel
theorem dX7_sheet_92 : decode cX7_sheet 92 = .ok (.goto (-23), 3) := by decide +kernel
theorem dX7_sheet_95 : decode cX7_sheet 95 = .ok (.aload_n 0, 1) := by decide +kernel
theorem dX7_sheet_96 : decode cX7_sheet 96 = .ok (.getfield 22, 3) := by decide +kernel
theorem dX7_sheet_99 : decode cX7_sheet 99 = .ok (.iload_n 1, 1) := by decide +kernel
theorem dX7_sheet_100 : decode cX7_sheet 100 = .ok (.iaload, 1) := by decide +kernel
theorem dX7_sheet_101 : decode cX7_sheet 101 = .ok (.ireturn, 1) := by decide +kernel
theorem dX7_mark_0 : decode cX7_mark 0 = .ok (.iload_n 1, 1) := by decide +kernel
theorem dX7_mark_1 : decode cX7_mark 1 = .ok (.invokestatic 309, 3) := by decide +kernel
theorem dX7_mark_4 : decode cX7_mark 4 = .ok (.ifCond .ne 6, 3) := by decide +kernel
theorem dX7_mark_7 : decode cX7_mark 7 = .ok (.ldc 93, 2) := by decide +kernel
theorem dX7_mark_9 : decode cX7_mark 9 = .ok (.ireturn, 1) := by decide +kernel
theorem dX7_mark_10 : decode cX7_mark 10 = .ok (.aload_n 0, 1) := by decide +kernel
theorem dX7_mark_11 : decode cX7_mark 11 = .ok (.getfield 19, 3) := by decide +kernel
theorem dX7_mark_14 : decode cX7_mark 14 = .ok (.iload_n 1, 1) := by decide +kernel
theorem dX7_mark_15 : decode cX7_mark 15 = .ok (.iaload, 1) := by decide +kernel
theorem dX7_mark_16 : decode cX7_mark 16 = .ok (.ifCond .ge 7, 3) := by decide +kernel
theorem dX7_mark_19 : decode cX7_mark 19 = .ok (.ldc_w 315, 3) := by decide +kernel
theorem dX7_mark_22 : decode cX7_mark 22 = .ok (.ireturn, 1) := by decide +kernel
theorem dX7_mark_23 : decode cX7_mark 23 = .ok (.iload_n 2, 1) := by decide +kernel
theorem dX7_mark_24 : decode cX7_mark 24 = .ok (.i2l, 1) := by decide +kernel
theorem dX7_mark_25 : decode cX7_mark 25 = .ok (.lconst 0, 1) := by decide +kernel
theorem dX7_mark_26 : decode cX7_mark 26 = .ok (.aload_n 0, 1) := by decide +kernel
theorem dX7_mark_27 : decode cX7_mark 27 = .ok (.getfield 22, 3) := by decide +kernel
theorem dX7_mark_30 : decode cX7_mark 30 = .ok (.iload_n 1, 1) := by decide +kernel
theorem dX7_mark_31 : decode cX7_mark 31 = .ok (.iaload, 1) := by decide +kernel
theorem dX7_mark_32 : decode cX7_mark 32 = .ok (.iconst 1, 1) := by decide +kernel
theorem dX7_mark_33 : decode cX7_mark 33 = .ok (.isub, 1) := by decide +kernel
theorem dX7_mark_34 : decode cX7_mark 34 = .ok (.i2l, 1) := by decide +kernel
theorem dX7_mark_35 : decode cX7_mark 35 = .ok (.invokestatic 76, 3) := by decide +kernel
theorem dX7_mark_38 : decode cX7_mark 38 = .ok (.ifCond .ne 7, 3) := by decide +kernel
theorem dX7_mark_41 : decode cX7_mark 41 = .ok (.ldc_w 316, 3) := by decide +kernel
theorem dX7_mark_44 : decode cX7_mark 44 = .ok (.ireturn, 1) := by decide +kernel
theorem dX7_mark_45 : decode cX7_mark 45 = .ok (.aload_n 0, 1) := by decide +kernel
theorem dX7_mark_46 : decode cX7_mark 46 = .ok (.getfield 19, 3) := by decide +kernel
theorem dX7_mark_49 : decode cX7_mark 49 = .ok (.iload_n 1, 1) := by decide +kernel
theorem dX7_mark_50 : decode cX7_mark 50 = .ok (.iaload, 1) := by decide +kernel
theorem dX7_mark_51 : decode cX7_mark 51 = .ok (.ifCond .ne 12, 3) := by decide +kernel
theorem dX7_mark_54 : decode cX7_mark 54 = .ok (.iload_n 3, 1) := by decide +kernel
theorem dX7_mark_55 : decode cX7_mark 55 = .ok (.ldc 71, 2) := by decide +kernel
theorem dX7_mark_57 : decode cX7_mark 57 = .ok (.if_icmp .ne 6, 3) := by decide +kernel
theorem dX7_mark_60 : decode cX7_mark 60 = .ok (.ldc 139, 2) := by decide +kernel
theorem dX7_mark_62 : decode cX7_mark 62 = .ok (.ireturn, 1) := by decide +kernel
theorem dX7_mark_63 : decode cX7_mark 63 = .ok (.aload_n 0, 1) := by decide +kernel
theorem dX7_mark_64 : decode cX7_mark 64 = .ok (.getfield 19, 3) := by decide +kernel
theorem dX7_mark_67 : decode cX7_mark 67 = .ok (.iload_n 1, 1) := by decide +kernel
theorem dX7_mark_68 : decode cX7_mark 68 = .ok (.iaload, 1) := by decide +kernel
theorem dX7_mark_69 : decode cX7_mark 69 = .ok (.iconst 1, 1) := by decide +kernel
theorem dX7_mark_70 : decode cX7_mark 70 = .ok (.if_icmp .ne 26, 3) := by decide +kernel
theorem dX7_mark_73 : decode cX7_mark 73 = .ok (.iload_n 3, 1) := by decide +kernel
theorem dX7_mark_74 : decode cX7_mark 74 = .ok (.ldc 71, 2) := by decide +kernel
theorem dX7_mark_76 : decode cX7_mark 76 = .ok (.if_icmp .eq 20, 3) := by decide +kernel
theorem dX7_mark_79 : decode cX7_mark 79 = .ok (.iload_n 3, 1) := by decide +kernel
theorem dX7_mark_80 : decode cX7_mark 80 = .ok (.i2l, 1) := by decide +kernel
theorem dX7_mark_81 : decode cX7_mark 81 = .ok (.ldc2_w 317, 3) := by decide +kernel
theorem dX7_mark_84 : decode cX7_mark 84 = .ok (.ldc2_w 319, 3) := by decide +kernel
theorem dX7_mark_87 : decode cX7_mark 87 = .ok (.invokestatic 76, 3) := by decide +kernel
theorem dX7_mark_90 : decode cX7_mark 90 = .ok (.ifCond .ne 6, 3) := by decide +kernel
theorem dX7_mark_93 : decode cX7_mark 93 = .ok (.ldc 93, 2) := by decide +kernel
theorem dX7_mark_95 : decode cX7_mark 95 = .ok (.ireturn, 1) := by decide +kernel
theorem dX7_mark_96 : decode cX7_mark 96 = .ok (.aload_n 0, 1) := by decide +kernel
theorem dX7_mark_97 : decode cX7_mark 97 = .ok (.getfield 25, 3) := by decide +kernel
theorem dX7_mark_100 : decode cX7_mark 100 = .ok (.bipush 24, 2) := by decide +kernel
theorem dX7_mark_102 : decode cX7_mark 102 = .ok (.iload_n 1, 1) := by decide +kernel
theorem dX7_mark_103 : decode cX7_mark 103 = .ok (.imul, 1) := by decide +kernel
theorem dX7_mark_104 : decode cX7_mark 104 = .ok (.iload_n 2, 1) := by decide +kernel
theorem dX7_mark_105 : decode cX7_mark 105 = .ok (.iadd, 1) := by decide +kernel
theorem dX7_mark_106 : decode cX7_mark 106 = .ok (.aload_n 0, 1) := by decide +kernel
theorem dX7_mark_107 : decode cX7_mark 107 = .ok (.getfield 19, 3) := by decide +kernel
theorem dX7_mark_110 : decode cX7_mark 110 = .ok (.iload_n 1, 1) := by decide +kernel
theorem dX7_mark_111 : decode cX7_mark 111 = .ok (.iaload, 1) := by decide +kernel
theorem dX7_mark_112 : decode cX7_mark 112 = .ok (.ifCond .ne 13, 3) := by decide +kernel
theorem dX7_mark_115 : decode cX7_mark 115 = .ok (.iload_n 3, 1) := by decide +kernel
theorem dX7_mark_116 : decode cX7_mark 116 = .ok (.bipush 16, 2) := by decide +kernel
theorem dX7_mark_118 : decode cX7_mark 118 = .ok (.ishl, 1) := by decide +kernel
theorem dX7_mark_119 : decode cX7_mark 119 = .ok (.bipush 16, 2) := by decide +kernel
theorem dX7_mark_121 : decode cX7_mark 121 = .ok (.ishr, 1) := by decide +kernel
theorem dX7_mark_122 : decode cX7_mark 122 = .ok (.goto 4, 3) := by decide +kernel
theorem dX7_mark_125 : decode cX7_mark 125 = .ok (.iload_n 3, 1) := by decide +kernel
theorem dX7_mark_126 : decode cX7_mark 126 = .ok (.iastore, 1) := by decide +kernel
theorem dX7_mark_127 : decode cX7_mark 127 = .ok (.iconst 1, 1) := by decide +kernel
theorem dX7_mark_128 : decode cX7_mark 128 = .ok (.ireturn, 1) := by decide +kernel
theorem dX7_learn_0 : decode cX7_learn 0 = .ok (.iload_n 1, 1) := by decide +kernel
theorem dX7_learn_1 : decode cX7_learn 1 = .ok (.invokestatic 309, 3) := by decide +kernel
theorem dX7_learn_4 : decode cX7_learn 4 = .ok (.ifCond .eq 11, 3) := by decide +kernel
theorem dX7_learn_7 : decode cX7_learn 7 = .ok (.aload_n 0, 1) := by decide +kernel
theorem dX7_learn_8 : decode cX7_learn 8 = .ok (.iload_n 2, 1) := by decide +kernel
theorem dX7_learn_9 : decode cX7_learn 9 = .ok (.invokevirtual 121, 3) := by decide +kernel
theorem dX7_learn_12 : decode cX7_learn 12 = .ok (.ifCond .ne 6, 3) := by decide +kernel
theorem dX7_learn_15 : decode cX7_learn 15 = .ok (.ldc 93, 2) := by decide +kernel
theorem dX7_learn_17 : decode cX7_learn 17 = .ok (.ireturn, 1) := by decide +kernel
theorem dX7_learn_18 : decode cX7_learn 18 = .ok (.aload_n 0, 1) := by decide +kernel
theorem dX7_learn_19 : decode cX7_learn 19 = .ok (.getfield 19, 3) := by decide +kernel
theorem dX7_learn_22 : decode cX7_learn 22 = .ok (.iload_n 1, 1) := by decide +kernel
theorem dX7_learn_23 : decode cX7_learn 23 = .ok (.iaload, 1) := by decide +kernel
theorem dX7_learn_24 : decode cX7_learn 24 = .ok (.ifCond .ge 7, 3) := by decide +kernel
theorem dX7_learn_27 : decode cX7_learn 27 = .ok (.ldc_w 315, 3) := by decide +kernel
theorem dX7_learn_30 : decode cX7_learn 30 = .ok (.ireturn, 1) := by decide +kernel
theorem dX7_learn_31 : decode cX7_learn 31 = .ok (.aload_n 0, 1) := by decide +kernel
theorem dX7_learn_32 : decode cX7_learn 32 = .ok (.invokevirtual 189, 3) := by decide +kernel
theorem dX7_learn_35 : decode cX7_learn 35 = .ok (.iconst 0, 1) := by decide +kernel
theorem dX7_learn_36 : decode cX7_learn 36 = .ok (.istore_n 3, 1) := by decide +kernel
theorem dX7_learn_37 : decode cX7_learn 37 = .ok (.iconst (-1), 1) := by decide +kernel
theorem dX7_learn_38 : decode cX7_learn 38 = .ok (.istore 4, 2) := by decide +kernel
theorem dX7_learn_40 : decode cX7_learn 40 = .ok (.iconst 0, 1) := by decide +kernel
theorem dX7_learn_41 : decode cX7_learn 41 = .ok (.istore 5, 2) := by decide +kernel
theorem dX7_learn_43 : decode cX7_learn 43 = .ok (.iload 5, 2) := by decide +kernel
theorem dX7_learn_45 : decode cX7_learn 45 = .ok (.bipush 30, 2) := by decide +kernel
theorem dX7_learn_47 : decode cX7_learn 47 = .ok (.if_icmp .ge 111, 3) := by decide +kernel
theorem dX7_learn_50 : decode cX7_learn 50 = .ok (.aload_n 0, 1) := by decide +kernel
theorem dX7_learn_51 : decode cX7_learn 51 = .ok (.getfield 7, 3) := by decide +kernel
theorem dX7_learn_54 : decode cX7_learn 54 = .ok (.iconst 3, 1) := by decide +kernel
theorem dX7_learn_55 : decode cX7_learn 55 = .ok (.iload 5, 2) := by decide +kernel
theorem dX7_learn_57 : decode cX7_learn 57 = .ok (.iastore, 1) := by decide +kernel
theorem dX7_learn_58 : decode cX7_learn 58 = .ok (.iconst 0, 1) := by decide +kernel
theorem dX7_learn_59 : decode cX7_learn 59 = .ok (.istore 6, 2) := by decide +kernel
theorem dX7_learn_61 : decode cX7_learn 61 = .ok (.iconst 0, 1) := by decide +kernel
theorem dX7_learn_62 : decode cX7_learn 62 = .ok (.istore 7, 2) := by decide +kernel
theorem dX7_learn_64 : decode cX7_learn 64 = .ok (.iload 7, 2) := by decide +kernel
theorem dX7_learn_66 : decode cX7_learn 66 = .ok (.aload_n 0, 1) := by decide +kernel
theorem dX7_learn_67 : decode cX7_learn 67 = .ok (.getfield 22, 3) := by decide +kernel
theorem dX7_learn_70 : decode cX7_learn 70 = .ok (.iload_n 1, 1) := by decide +kernel
theorem dX7_learn_71 : decode cX7_learn 71 = .ok (.iaload, 1) := by decide +kernel
theorem dX7_learn_72 : decode cX7_learn 72 = .ok (.if_icmp .ge 46, 3) := by decide +kernel
theorem dX7_learn_75 : decode cX7_learn 75 = .ok (.aload_n 0, 1) := by decide +kernel
theorem dX7_learn_76 : decode cX7_learn 76 = .ok (.invokevirtual 167, 3) := by decide +kernel
theorem dX7_learn_79 : decode cX7_learn 79 = .ok (.istore 8, 2) := by decide +kernel
theorem dX7_learn_81 : decode cX7_learn 81 = .ok (.iload 6, 2) := by decide +kernel
theorem dX7_learn_83 : decode cX7_learn 83 = .ok (.aload_n 0, 1) := by decide +kernel
theorem dX7_learn_84 : decode cX7_learn 84 = .ok (.getfield 25, 3) := by decide +kernel
theorem dX7_learn_87 : decode cX7_learn 87 = .ok (.bipush 24, 2) := by decide +kernel
theorem dX7_learn_89 : decode cX7_learn 89 = .ok (.iload_n 1, 1) := by decide +kernel
theorem dX7_learn_90 : decode cX7_learn 90 = .ok (.imul, 1) := by decide +kernel
theorem dX7_learn_91 : decode cX7_learn 91 = .ok (.iload 7, 2) := by decide +kernel
theorem dX7_learn_93 : decode cX7_learn 93 = .ok (.iadd, 1) := by decide +kernel
theorem dX7_learn_94 : decode cX7_learn 94 = .ok (.iaload, 1) := by decide +kernel
theorem dX7_learn_95 : decode cX7_learn 95 = .ok (.aload_n 0, 1) := by decide +kernel
theorem dX7_learn_96 : decode cX7_learn 96 = .ok (.iload_n 2, 1) := by decide +kernel
theorem dX7_learn_97 : decode cX7_learn 97 = .ok (.iconst 4, 1) := by decide +kernel
theorem dX7_learn_98 : decode cX7_learn 98 = .ok (.invokevirtual 80, 3) := by decide +kernel
theorem dX7_learn_101 : decode cX7_learn 101 = .ok (.if_icmp .ne 7, 3) := by decide +kernel
theorem dX7_learn_104 : decode cX7_learn 104 = .ok (.iconst 1, 1) := by decide +kernel
theorem dX7_learn_105 : decode cX7_learn 105 = .ok (.goto 4, 3) := by decide +kernel
theorem dX7_learn_108 : decode cX7_learn 108 = .ok (.iconst 0, 1) := by decide +kernel
theorem dX7_learn_109 : decode cX7_learn 109 = .ok (.iadd, 1) := by decide +kernel
theorem dX7_learn_110 : decode cX7_learn 110 = .ok (.istore 6, 2) := by decide +kernel
theorem dX7_learn_112 : decode cX7_learn 112 = .ok (.iinc 7 1, 3) := by decide +kernel
theorem dX7_learn_115 : decode cX7_learn 115 = .ok (.goto (-51), 3) := by decide +kernel
theorem dX7_learn_118 : decode cX7_learn 118 = .ok (.aload_n 0, 1) := by decide +kernel
theorem dX7_learn_119 : decode cX7_learn 119 = .ok (.invokevirtual 192, 3) := by decide +kernel
theorem dX7_learn_122 : decode cX7_learn 122 = .ok (.iload 6, 2) := by decide +kernel
theorem dX7_learn_124 : decode cX7_learn 124 = .ok (.iload 4, 2) := by decide +kernel
theorem dX7_learn_126 : decode cX7_learn 126 = .ok (.if_icmp .le 8, 3) := by decide +kernel
theorem dX7_learn_129 : decode cX7_learn 129 = .ok (.iload 5, 2) := by decide +kernel
theorem dX7_learn_131 : decode cX7_learn 131 = .ok (.goto 4, 3) := by decide +kernel
theorem dX7_learn_134 : decode cX7_learn 134 = .ok (.iload_n 3, 1) := by decide +kernel
theorem dX7_learn_135 : decode cX7_learn 135 = .ok (.istore_n 3, 1) := by decide +kernel
theorem dX7_learn_136 : decode cX7_learn 136 = .ok (.iload 6, 2) := by decide +kernel
theorem dX7_learn_138 : decode cX7_learn 138 = .ok (.iload 4, 2) := by decide +kernel
theorem dX7_learn_140 : decode cX7_learn 140 = .ok (.if_icmp .le 8, 3) := by decide +kernel
theorem dX7_learn_143 : decode cX7_learn 143 = .ok (.iload 6, 2) := by decide +kernel
theorem dX7_learn_145 : decode cX7_learn 145 = .ok (.goto 5, 3) := by decide +kernel
theorem dX7_learn_148 : decode cX7_learn 148 = .ok (.iload 4, 2) := by decide +kernel
theorem dX7_learn_150 : decode cX7_learn 150 = .ok (.istore 4, 2) := by decide +kernel
theorem dX7_learn_152 : decode cX7_learn 152 = .ok (.iinc 5 1, 3) := by decide +kernel
theorem dX7_learn_155 : decode cX7_learn 155 = .ok (.goto (-112), 3) := by decide +kernel
theorem dX7_learn_158 : decode cX7_learn 158 = .ok (.iload_n 3, 1) := by decide +kernel
theorem dX7_learn_159 : decode cX7_learn 159 = .ok (.ireturn, 1) := by decide +kernel
theorem dX7_pour_0 : decode cX7_pour 0 = .ok (.iload_n 1, 1) := by decide +kernel
theorem dX7_pour_1 : decode cX7_pour 1 = .ok (.invokestatic 309, 3) := by decide +kernel
theorem dX7_pour_4 : decode cX7_pour 4 = .ok (.ifCond .ne 6, 3) := by decide +kernel
theorem dX7_pour_7 : decode cX7_pour 7 = .ok (.ldc 93, 2) := by decide +kernel
theorem dX7_pour_9 : decode cX7_pour 9 = .ok (.ireturn, 1) := by decide +kernel
theorem dX7_pour_10 : decode cX7_pour 10 = .ok (.aload_n 0, 1) := by decide +kernel
theorem dX7_pour_11 : decode cX7_pour 11 = .ok (.getfield 19, 3) := by decide +kernel
theorem dX7_pour_14 : decode cX7_pour 14 = .ok (.iload_n 1, 1) := by decide +kernel
theorem dX7_pour_15 : decode cX7_pour 15 = .ok (.iaload, 1) := by decide +kernel
theorem dX7_pour_16 : decode cX7_pour 16 = .ok (.ifCond .ge 7, 3) := by decide +kernel
theorem dX7_pour_19 : decode cX7_pour 19 = .ok (.ldc_w 315, 3) := by decide +kernel
theorem dX7_pour_22 : decode cX7_pour 22 = .ok (.ireturn, 1) := by decide +kernel
theorem dX7_pour_23 : decode cX7_pour 23 = .ok (.iconst 0, 1) := by decide +kernel
theorem dX7_pour_24 : decode cX7_pour 24 = .ok (.istore_n 2, 1) := by decide +kernel
theorem dX7_pour_25 : decode cX7_pour 25 = .ok (.iconst 0, 1) := by decide +kernel
theorem dX7_pour_26 : decode cX7_pour 26 = .ok (.istore_n 3, 1) := by decide +kernel
theorem dX7_pour_27 : decode cX7_pour 27 = .ok (.iload_n 3, 1) := by decide +kernel
theorem dX7_pour_28 : decode cX7_pour 28 = .ok (.aload_n 0, 1) := by decide +kernel
theorem dX7_pour_29 : decode cX7_pour 29 = .ok (.getfield 22, 3) := by decide +kernel
theorem dX7_pour_32 : decode cX7_pour 32 = .ok (.iload_n 1, 1) := by decide +kernel
theorem dX7_pour_33 : decode cX7_pour 33 = .ok (.iaload, 1) := by decide +kernel
theorem dX7_pour_34 : decode cX7_pour 34 = .ok (.if_icmp .ge 75, 3) := by decide +kernel
theorem dX7_pour_37 : decode cX7_pour 37 = .ok (.iload_n 3, 1) := by decide +kernel
theorem dX7_pour_38 : decode cX7_pour 38 = .ok (.aload_n 0, 1) := by decide +kernel
theorem dX7_pour_39 : decode cX7_pour 39 = .ok (.getfield 7, 3) := by decide +kernel
theorem dX7_pour_42 : decode cX7_pour 42 = .ok (.iconst 0, 1) := by decide +kernel
theorem dX7_pour_43 : decode cX7_pour 43 = .ok (.iaload, 1) := by decide +kernel
theorem dX7_pour_44 : decode cX7_pour 44 = .ok (.if_icmp .ge 65, 3) := by decide +kernel
theorem dX7_pour_47 : decode cX7_pour 47 = .ok (.aload_n 0, 1) := by decide +kernel
theorem dX7_pour_48 : decode cX7_pour 48 = .ok (.getfield 25, 3) := by decide +kernel
theorem dX7_pour_51 : decode cX7_pour 51 = .ok (.bipush 24, 2) := by decide +kernel
theorem dX7_pour_53 : decode cX7_pour 53 = .ok (.iload_n 1, 1) := by decide +kernel
theorem dX7_pour_54 : decode cX7_pour 54 = .ok (.imul, 1) := by decide +kernel
theorem dX7_pour_55 : decode cX7_pour 55 = .ok (.iload_n 3, 1) := by decide +kernel
theorem dX7_pour_56 : decode cX7_pour 56 = .ok (.iadd, 1) := by decide +kernel
theorem dX7_pour_57 : decode cX7_pour 57 = .ok (.iaload, 1) := by decide +kernel
theorem dX7_pour_58 : decode cX7_pour 58 = .ok (.istore 4, 2) := by decide +kernel
theorem dX7_pour_60 : decode cX7_pour 60 = .ok (.iload 4, 2) := by decide +kernel
theorem dX7_pour_62 : decode cX7_pour 62 = .ok (.i2l, 1) := by decide +kernel
theorem dX7_pour_63 : decode cX7_pour 63 = .ok (.lconst 0, 1) := by decide +kernel
theorem dX7_pour_64 : decode cX7_pour 64 = .ok (.ldc2_w 143, 3) := by decide +kernel
theorem dX7_pour_67 : decode cX7_pour 67 = .ok (.invokestatic 76, 3) := by decide +kernel
theorem dX7_pour_70 : decode cX7_pour 70 = .ok (.ifCond .eq 33, 3) := by decide +kernel
theorem dX7_pour_73 : decode cX7_pour 73 = .ok (.aload_n 0, 1) := by decide +kernel
theorem dX7_pour_74 : decode cX7_pour 74 = .ok (.aload_n 0, 1) := by decide +kernel
theorem dX7_pour_75 : decode cX7_pour 75 = .ok (.iload_n 3, 1) := by decide +kernel
theorem dX7_pour_76 : decode cX7_pour 76 = .ok (.invokevirtual 72, 3) := by decide +kernel
theorem dX7_pour_79 : decode cX7_pour 79 = .ok (.iconst 4, 1) := by decide +kernel
theorem dX7_pour_80 : decode cX7_pour 80 = .ok (.iadd, 1) := by decide +kernel
theorem dX7_pour_81 : decode cX7_pour 81 = .ok (.iload 4, 2) := by decide +kernel
theorem dX7_pour_83 : decode cX7_pour 83 = .ok (.invokevirtual 140, 3) := by decide +kernel
theorem dX7_pour_86 : decode cX7_pour 86 = .ok (.istore 5, 2) := by decide +kernel
theorem dX7_pour_88 : decode cX7_pour 88 = .ok (.iload_n 2, 1) := by decide +kernel
theorem dX7_pour_89 : decode cX7_pour 89 = .ok (.iload 5, 2) := by decide +kernel
theorem dX7_pour_91 : decode cX7_pour 91 = .ok (.iload 4, 2) := by decide +kernel
theorem dX7_pour_93 : decode cX7_pour 93 = .ok (.if_icmp .ne 7, 3) := by decide +kernel
theorem dX7_pour_96 : decode cX7_pour 96 = .ok (.iconst 0, 1) := by decide +kernel
theorem dX7_pour_97 : decode cX7_pour 97 = .ok (.goto 4, 3) := by decide +kernel
theorem dX7_pour_100 : decode cX7_pour 100 = .ok (.iconst 1, 1) := by decide +kernel
theorem dX7_pour_101 : decode cX7_pour 101 = .ok (.iadd, 1) := by decide +kernel
theorem dX7_pour_102 : decode cX7_pour 102 = .ok (.istore_n 2, 1) := by decide +kernel
theorem dX7_pour_103 : decode cX7_pour 103 = .ok (.iinc 3 1, 3) := by decide +kernel
theorem dX7_pour_106 : decode cX7_pour 106 = .ok (.goto (-79), 3) := by decide +kernel
theorem dX7_pour_109 : decode cX7_pour 109 = .ok (.iload_n 2, 1) := by decide +kernel
theorem dX7_pour_110 : decode cX7_pour 110 = .ok (.ireturn, 1) := by decide +kernel
theorem dX7_reads_0 : decode cX7_reads 0 = .ok (.iload_n 1, 1) := by decide +kernel
theorem dX7_reads_1 : decode cX7_reads 1 = .ok (.invokestatic 309, 3) := by decide +kernel
theorem dX7_reads_4 : decode cX7_reads 4 = .ok (.ifCond .ne 6, 3) := by decide +kernel
theorem dX7_reads_7 : decode cX7_reads 7 = .ok (.ldc 93, 2) := by decide +kernel
theorem dX7_reads_9 : decode cX7_reads 9 = .ok (.ireturn, 1) := by decide +kernel
theorem dX7_reads_10 : decode cX7_reads 10 = .ok (.aload_n 0, 1) := by decide +kernel
theorem dX7_reads_11 : decode cX7_reads 11 = .ok (.getfield 19, 3) := by decide +kernel
theorem dX7_reads_14 : decode cX7_reads 14 = .ok (.iload_n 1, 1) := by decide +kernel
theorem dX7_reads_15 : decode cX7_reads 15 = .ok (.iaload, 1) := by decide +kernel
theorem dX7_reads_16 : decode cX7_reads 16 = .ok (.ifCond .ge 7, 3) := by decide +kernel
theorem dX7_reads_19 : decode cX7_reads 19 = .ok (.ldc_w 315, 3) := by decide +kernel
theorem dX7_reads_22 : decode cX7_reads 22 = .ok (.ireturn, 1) := by decide +kernel
theorem dX7_reads_23 : decode cX7_reads 23 = .ok (.iconst 0, 1) := by decide +kernel
theorem dX7_reads_24 : decode cX7_reads 24 = .ok (.istore_n 2, 1) := by decide +kernel
theorem dX7_reads_25 : decode cX7_reads 25 = .ok (.iload_n 2, 1) := by decide +kernel
theorem dX7_reads_26 : decode cX7_reads 26 = .ok (.aload_n 0, 1) := by decide +kernel
theorem dX7_reads_27 : decode cX7_reads 27 = .ok (.getfield 22, 3) := by decide +kernel
theorem dX7_reads_30 : decode cX7_reads 30 = .ok (.iload_n 1, 1) := by decide +kernel
theorem dX7_reads_31 : decode cX7_reads 31 = .ok (.iaload, 1) := by decide +kernel
theorem dX7_reads_32 : decode cX7_reads 32 = .ok (.if_icmp .ge 47, 3) := by decide +kernel
theorem dX7_reads_35 : decode cX7_reads 35 = .ok (.aload_n 0, 1) := by decide +kernel
theorem dX7_reads_36 : decode cX7_reads 36 = .ok (.getfield 25, 3) := by decide +kernel
theorem dX7_reads_39 : decode cX7_reads 39 = .ok (.bipush 24, 2) := by decide +kernel
theorem dX7_reads_41 : decode cX7_reads 41 = .ok (.iload_n 1, 1) := by decide +kernel
theorem dX7_reads_42 : decode cX7_reads 42 = .ok (.imul, 1) := by decide +kernel
theorem dX7_reads_43 : decode cX7_reads 43 = .ok (.iload_n 2, 1) := by decide +kernel
theorem dX7_reads_44 : decode cX7_reads 44 = .ok (.iadd, 1) := by decide +kernel
theorem dX7_reads_45 : decode cX7_reads 45 = .ok (.iaload, 1) := by decide +kernel
theorem dX7_reads_46 : decode cX7_reads 46 = .ok (.istore_n 3, 1) := by decide +kernel
theorem dX7_reads_47 : decode cX7_reads 47 = .ok (.iload_n 3, 1) := by decide +kernel
theorem dX7_reads_48 : decode cX7_reads 48 = .ok (.ldc 71, 2) := by decide +kernel
theorem dX7_reads_50 : decode cX7_reads 50 = .ok (.if_icmp .eq 23, 3) := by decide +kernel
theorem dX7_reads_53 : decode cX7_reads 53 = .ok (.aload_n 0, 1) := by decide +kernel
theorem dX7_reads_54 : decode cX7_reads 54 = .ok (.iload_n 2, 1) := by decide +kernel
theorem dX7_reads_55 : decode cX7_reads 55 = .ok (.invokevirtual 121, 3) := by decide +kernel
theorem dX7_reads_58 : decode cX7_reads 58 = .ok (.ifCond .eq 13, 3) := by decide +kernel
theorem dX7_reads_61 : decode cX7_reads 61 = .ok (.iload_n 3, 1) := by decide +kernel
theorem dX7_reads_62 : decode cX7_reads 62 = .ok (.aload_n 0, 1) := by decide +kernel
theorem dX7_reads_63 : decode cX7_reads 63 = .ok (.iload_n 2, 1) := by decide +kernel
theorem dX7_reads_64 : decode cX7_reads 64 = .ok (.iconst 4, 1) := by decide +kernel
theorem dX7_reads_65 : decode cX7_reads 65 = .ok (.invokevirtual 80, 3) := by decide +kernel
theorem dX7_reads_68 : decode cX7_reads 68 = .ok (.if_icmp .eq 5, 3) := by decide +kernel
theorem dX7_reads_71 : decode cX7_reads 71 = .ok (.iload_n 2, 1) := by decide +kernel
theorem dX7_reads_72 : decode cX7_reads 72 = .ok (.ireturn, 1) := by decide +kernel
theorem dX7_reads_73 : decode cX7_reads 73 = .ok (.iinc 2 1, 3) := by decide +kernel
theorem dX7_reads_76 : decode cX7_reads 76 = .ok (.goto (-51), 3) := by decide +kernel
theorem dX7_reads_79 : decode cX7_reads 79 = .ok (.ldc 71, 2) := by decide +kernel
theorem dX7_reads_81 : decode cX7_reads 81 = .ok (.ireturn, 1) := by decide +kernel
theorem dX7_copy_0 : decode cX7_copy 0 = .ok (.iload_n 1, 1) := by decide +kernel
theorem dX7_copy_1 : decode cX7_copy 1 = .ok (.invokestatic 309, 3) := by decide +kernel
theorem dX7_copy_4 : decode cX7_copy 4 = .ok (.ifCond .eq 10, 3) := by decide +kernel
theorem dX7_copy_7 : decode cX7_copy 7 = .ok (.iload_n 3, 1) := by decide +kernel
theorem dX7_copy_8 : decode cX7_copy 8 = .ok (.invokestatic 309, 3) := by decide +kernel
theorem dX7_copy_11 : decode cX7_copy 11 = .ok (.ifCond .ne 6, 3) := by decide +kernel
theorem dX7_copy_14 : decode cX7_copy 14 = .ok (.ldc 93, 2) := by decide +kernel
theorem dX7_copy_16 : decode cX7_copy 16 = .ok (.ireturn, 1) := by decide +kernel
theorem dX7_copy_17 : decode cX7_copy 17 = .ok (.aload_n 0, 1) := by decide +kernel
theorem dX7_copy_18 : decode cX7_copy 18 = .ok (.getfield 19, 3) := by decide +kernel
theorem dX7_copy_21 : decode cX7_copy 21 = .ok (.iload_n 1, 1) := by decide +kernel
theorem dX7_copy_22 : decode cX7_copy 22 = .ok (.iaload, 1) := by decide +kernel
theorem dX7_copy_23 : decode cX7_copy 23 = .ok (.ifCond .lt 12, 3) := by decide +kernel
theorem dX7_copy_26 : decode cX7_copy 26 = .ok (.aload_n 0, 1) := by decide +kernel
theorem dX7_copy_27 : decode cX7_copy 27 = .ok (.getfield 19, 3) := by decide +kernel
theorem dX7_copy_30 : decode cX7_copy 30 = .ok (.iload_n 3, 1) := by decide +kernel
theorem dX7_copy_31 : decode cX7_copy 31 = .ok (.iaload, 1) := by decide +kernel
theorem dX7_copy_32 : decode cX7_copy 32 = .ok (.ifCond .ge 7, 3) := by decide +kernel
theorem dX7_copy_35 : decode cX7_copy 35 = .ok (.ldc_w 315, 3) := by decide +kernel
theorem dX7_copy_38 : decode cX7_copy 38 = .ok (.ireturn, 1) := by decide +kernel
theorem dX7_copy_39 : decode cX7_copy 39 = .ok (.aload_n 0, 1) := by decide +kernel
theorem dX7_copy_40 : decode cX7_copy 40 = .ok (.getfield 19, 3) := by decide +kernel
theorem dX7_copy_43 : decode cX7_copy 43 = .ok (.iload_n 1, 1) := by decide +kernel
theorem dX7_copy_44 : decode cX7_copy 44 = .ok (.iaload, 1) := by decide +kernel
theorem dX7_copy_45 : decode cX7_copy 45 = .ok (.aload_n 0, 1) := by decide +kernel
theorem dX7_copy_46 : decode cX7_copy 46 = .ok (.getfield 19, 3) := by decide +kernel
theorem dX7_copy_49 : decode cX7_copy 49 = .ok (.iload_n 3, 1) := by decide +kernel
theorem dX7_copy_50 : decode cX7_copy 50 = .ok (.iaload, 1) := by decide +kernel
theorem dX7_copy_51 : decode cX7_copy 51 = .ok (.if_icmp .eq 6, 3) := by decide +kernel
theorem dX7_copy_54 : decode cX7_copy 54 = .ok (.ldc 139, 2) := by decide +kernel
theorem dX7_copy_56 : decode cX7_copy 56 = .ok (.ireturn, 1) := by decide +kernel
theorem dX7_copy_57 : decode cX7_copy 57 = .ok (.iload_n 2, 1) := by decide +kernel
theorem dX7_copy_58 : decode cX7_copy 58 = .ok (.ifCond .lt 48, 3) := by decide +kernel
theorem dX7_copy_61 : decode cX7_copy 61 = .ok (.iload 4, 2) := by decide +kernel
theorem dX7_copy_63 : decode cX7_copy 63 = .ok (.ifCond .lt 43, 3) := by decide +kernel
theorem dX7_copy_66 : decode cX7_copy 66 = .ok (.iload 5, 2) := by decide +kernel
theorem dX7_copy_68 : decode cX7_copy 68 = .ok (.ifCond .lt 38, 3) := by decide +kernel
theorem dX7_copy_71 : decode cX7_copy 71 = .ok (.iload_n 2, 1) := by decide +kernel
theorem dX7_copy_72 : decode cX7_copy 72 = .ok (.i2l, 1) := by decide +kernel
theorem dX7_copy_73 : decode cX7_copy 73 = .ok (.iload 5, 2) := by decide +kernel
theorem dX7_copy_75 : decode cX7_copy 75 = .ok (.i2l, 1) := by decide +kernel
theorem dX7_copy_76 : decode cX7_copy 76 = .ok (.ladd, 1) := by decide +kernel
theorem dX7_copy_77 : decode cX7_copy 77 = .ok (.aload_n 0, 1) := by decide +kernel
theorem dX7_copy_78 : decode cX7_copy 78 = .ok (.getfield 22, 3) := by decide +kernel
theorem dX7_copy_81 : decode cX7_copy 81 = .ok (.iload_n 1, 1) := by decide +kernel
theorem dX7_copy_82 : decode cX7_copy 82 = .ok (.iaload, 1) := by decide +kernel
theorem dX7_copy_83 : decode cX7_copy 83 = .ok (.i2l, 1) := by decide +kernel
theorem dX7_copy_84 : decode cX7_copy 84 = .ok (.lcmp, 1) := by decide +kernel
theorem dX7_copy_85 : decode cX7_copy 85 = .ok (.ifCond .gt 21, 3) := by decide +kernel
theorem dX7_copy_88 : decode cX7_copy 88 = .ok (.iload 4, 2) := by decide +kernel
theorem dX7_copy_90 : decode cX7_copy 90 = .ok (.i2l, 1) := by decide +kernel
theorem dX7_copy_91 : decode cX7_copy 91 = .ok (.iload 5, 2) := by decide +kernel
theorem dX7_copy_93 : decode cX7_copy 93 = .ok (.i2l, 1) := by decide +kernel
theorem dX7_copy_94 : decode cX7_copy 94 = .ok (.ladd, 1) := by decide +kernel
theorem dX7_copy_95 : decode cX7_copy 95 = .ok (.aload_n 0, 1) := by decide +kernel
theorem dX7_copy_96 : decode cX7_copy 96 = .ok (.getfield 22, 3) := by decide +kernel
theorem dX7_copy_99 : decode cX7_copy 99 = .ok (.iload_n 3, 1) := by decide +kernel
theorem dX7_copy_100 : decode cX7_copy 100 = .ok (.iaload, 1) := by decide +kernel
theorem dX7_copy_101 : decode cX7_copy 101 = .ok (.i2l, 1) := by decide +kernel
theorem dX7_copy_102 : decode cX7_copy 102 = .ok (.lcmp, 1) := by decide +kernel
theorem dX7_copy_103 : decode cX7_copy 103 = .ok (.ifCond .le 7, 3) := by decide +kernel
theorem dX7_copy_106 : decode cX7_copy 106 = .ok (.ldc_w 316, 3) := by decide +kernel
theorem dX7_copy_109 : decode cX7_copy 109 = .ok (.ireturn, 1) := by decide +kernel
theorem dX7_copy_110 : decode cX7_copy 110 = .ok (.iconst 0, 1) := by decide +kernel
theorem dX7_copy_111 : decode cX7_copy 111 = .ok (.istore 6, 2) := by decide +kernel
theorem dX7_copy_113 : decode cX7_copy 113 = .ok (.iload 6, 2) := by decide +kernel
theorem dX7_copy_115 : decode cX7_copy 115 = .ok (.iload 5, 2) := by decide +kernel
theorem dX7_copy_117 : decode cX7_copy 117 = .ok (.if_icmp .ge 30, 3) := by decide +kernel
theorem dX7_copy_120 : decode cX7_copy 120 = .ok (.aload_n 0, 1) := by decide +kernel
theorem dX7_copy_121 : decode cX7_copy 121 = .ok (.getfield 62, 3) := by decide +kernel
theorem dX7_copy_124 : decode cX7_copy 124 = .ok (.iload 6, 2) := by decide +kernel
theorem dX7_copy_126 : decode cX7_copy 126 = .ok (.aload_n 0, 1) := by decide +kernel
theorem dX7_copy_127 : decode cX7_copy 127 = .ok (.getfield 25, 3) := by decide +kernel
theorem dX7_copy_130 : decode cX7_copy 130 = .ok (.bipush 24, 2) := by decide +kernel
theorem dX7_copy_132 : decode cX7_copy 132 = .ok (.iload_n 1, 1) := by decide +kernel
theorem dX7_copy_133 : decode cX7_copy 133 = .ok (.imul, 1) := by decide +kernel
theorem dX7_copy_134 : decode cX7_copy 134 = .ok (.iload_n 2, 1) := by decide +kernel
theorem dX7_copy_135 : decode cX7_copy 135 = .ok (.iadd, 1) := by decide +kernel
theorem dX7_copy_136 : decode cX7_copy 136 = .ok (.iload 6, 2) := by decide +kernel
theorem dX7_copy_138 : decode cX7_copy 138 = .ok (.iadd, 1) := by decide +kernel
theorem dX7_copy_139 : decode cX7_copy 139 = .ok (.iaload, 1) := by decide +kernel
theorem dX7_copy_140 : decode cX7_copy 140 = .ok (.iastore, 1) := by decide +kernel
theorem dX7_copy_141 : decode cX7_copy 141 = .ok (.iinc 6 1, 3) := by decide +kernel
theorem dX7_copy_144 : decode cX7_copy 144 = .ok (.goto (-31), 3) := by decide +kernel
theorem dX7_copy_147 : decode cX7_copy 147 = .ok (.iconst 0, 1) := by decide +kernel
theorem dX7_copy_148 : decode cX7_copy 148 = .ok (.istore 6, 2) := by decide +kernel
theorem dX7_copy_150 : decode cX7_copy 150 = .ok (.iload 6, 2) := by decide +kernel
theorem dX7_copy_152 : decode cX7_copy 152 = .ok (.iload 5, 2) := by decide +kernel
theorem dX7_copy_154 : decode cX7_copy 154 = .ok (.if_icmp .ge 31, 3) := by decide +kernel
theorem dX7_copy_157 : decode cX7_copy 157 = .ok (.aload_n 0, 1) := by decide +kernel
theorem dX7_copy_158 : decode cX7_copy 158 = .ok (.getfield 25, 3) := by decide +kernel
theorem dX7_copy_161 : decode cX7_copy 161 = .ok (.bipush 24, 2) := by decide +kernel
theorem dX7_copy_163 : decode cX7_copy 163 = .ok (.iload_n 3, 1) := by decide +kernel
theorem dX7_copy_164 : decode cX7_copy 164 = .ok (.imul, 1) := by decide +kernel
theorem dX7_copy_165 : decode cX7_copy 165 = .ok (.iload 4, 2) := by decide +kernel
theorem dX7_copy_167 : decode cX7_copy 167 = .ok (.iadd, 1) := by decide +kernel
theorem dX7_copy_168 : decode cX7_copy 168 = .ok (.iload 6, 2) := by decide +kernel
theorem dX7_copy_170 : decode cX7_copy 170 = .ok (.iadd, 1) := by decide +kernel
theorem dX7_copy_171 : decode cX7_copy 171 = .ok (.aload_n 0, 1) := by decide +kernel
theorem dX7_copy_172 : decode cX7_copy 172 = .ok (.getfield 62, 3) := by decide +kernel
theorem dX7_copy_175 : decode cX7_copy 175 = .ok (.iload 6, 2) := by decide +kernel
theorem dX7_copy_177 : decode cX7_copy 177 = .ok (.iaload, 1) := by decide +kernel
theorem dX7_copy_178 : decode cX7_copy 178 = .ok (.iastore, 1) := by decide +kernel
theorem dX7_copy_179 : decode cX7_copy 179 = .ok (.iinc 6 1, 3) := by decide +kernel
theorem dX7_copy_182 : decode cX7_copy 182 = .ok (.goto (-32), 3) := by decide +kernel
theorem dX7_copy_185 : decode cX7_copy 185 = .ok (.iload 5, 2) := by decide +kernel
theorem dX7_copy_187 : decode cX7_copy 187 = .ok (.ireturn, 1) := by decide +kernel
theorem dX7_isSlot_0 : decode cX7_isSlot 0 = .ok (.iload_n 0, 1) := by decide +kernel
theorem dX7_isSlot_1 : decode cX7_isSlot 1 = .ok (.i2l, 1) := by decide +kernel
theorem dX7_isSlot_2 : decode cX7_isSlot 2 = .ok (.lconst 0, 1) := by decide +kernel
theorem dX7_isSlot_3 : decode cX7_isSlot 3 = .ok (.ldc2_w 157, 3) := by decide +kernel
theorem dX7_isSlot_6 : decode cX7_isSlot 6 = .ok (.invokestatic 76, 3) := by decide +kernel
theorem dX7_isSlot_9 : decode cX7_isSlot 9 = .ok (.ireturn, 1) := by decide +kernel
theorem dX7_lay_0 : decode cX7_lay 0 = .ok (.iload_n 2, 1) := by decide +kernel
theorem dX7_lay_1 : decode cX7_lay 1 = .ok (.ifCond .eq 33, 3) := by decide +kernel
theorem dX7_lay_4 : decode cX7_lay 4 = .ok (.iload_n 2, 1) := by decide +kernel
theorem dX7_lay_5 : decode cX7_lay 5 = .ok (.iconst 3, 1) := by decide +kernel
theorem dX7_lay_6 : decode cX7_lay 6 = .ok (.if_icmp .eq 28, 3) := by decide +kernel
theorem dX7_lay_9 : decode cX7_lay 9 = .ok (.iload_n 2, 1) := by decide +kernel
theorem dX7_lay_10 : decode cX7_lay 10 = .ok (.iconst 1, 1) := by decide +kernel
theorem dX7_lay_11 : decode cX7_lay 11 = .ok (.if_icmp .ne 11, 3) := by decide +kernel
theorem dX7_lay_14 : decode cX7_lay 14 = .ok (.aload_n 0, 1) := by decide +kernel
theorem dX7_lay_15 : decode cX7_lay 15 = .ok (.iload_n 3, 1) := by decide +kernel
theorem dX7_lay_16 : decode cX7_lay 16 = .ok (.invokevirtual 121, 3) := by decide +kernel
theorem dX7_lay_19 : decode cX7_lay 19 = .ok (.ifCond .ne 15, 3) := by decide +kernel
theorem dX7_lay_22 : decode cX7_lay 22 = .ok (.iload_n 2, 1) := by decide +kernel
theorem dX7_lay_23 : decode cX7_lay 23 = .ok (.iconst 2, 1) := by decide +kernel
theorem dX7_lay_24 : decode cX7_lay 24 = .ok (.if_icmp .ne 14, 3) := by decide +kernel
theorem dX7_lay_27 : decode cX7_lay 27 = .ok (.iload_n 3, 1) := by decide +kernel
theorem dX7_lay_28 : decode cX7_lay 28 = .ok (.invokestatic 309, 3) := by decide +kernel
theorem dX7_lay_31 : decode cX7_lay 31 = .ok (.ifCond .eq 7, 3) := by decide +kernel
theorem dX7_lay_34 : decode cX7_lay 34 = .ok (.iconst 1, 1) := by decide +kernel
theorem dX7_lay_35 : decode cX7_lay 35 = .ok (.goto 4, 3) := by decide +kernel
theorem dX7_lay_38 : decode cX7_lay 38 = .ok (.iconst 0, 1) := by decide +kernel
theorem dX7_lay_39 : decode cX7_lay 39 = .ok (.istore 4, 2) := by decide +kernel
theorem dX7_lay_41 : decode cX7_lay 41 = .ok (.iload_n 1, 1) := by decide +kernel
theorem dX7_lay_42 : decode cX7_lay 42 = .ok (.invokestatic 321, 3) := by decide +kernel
theorem dX7_lay_45 : decode cX7_lay 45 = .ok (.ifCond .eq 8, 3) := by decide +kernel
theorem dX7_lay_48 : decode cX7_lay 48 = .ok (.iload 4, 2) := by decide +kernel
theorem dX7_lay_50 : decode cX7_lay 50 = .ok (.ifCond .ne 6, 3) := by decide +kernel
theorem dX7_lay_53 : decode cX7_lay 53 = .ok (.ldc 93, 2) := by decide +kernel
theorem dX7_lay_55 : decode cX7_lay 55 = .ok (.ireturn, 1) := by decide +kernel
theorem dX7_lay_56 : decode cX7_lay 56 = .ok (.iload_n 2, 1) := by decide +kernel
theorem dX7_lay_57 : decode cX7_lay 57 = .ok (.iconst 2, 1) := by decide +kernel
theorem dX7_lay_58 : decode cX7_lay 58 = .ok (.if_icmp .ne 16, 3) := by decide +kernel
theorem dX7_lay_61 : decode cX7_lay 61 = .ok (.aload_n 0, 1) := by decide +kernel
theorem dX7_lay_62 : decode cX7_lay 62 = .ok (.getfield 19, 3) := by decide +kernel
theorem dX7_lay_65 : decode cX7_lay 65 = .ok (.iload_n 3, 1) := by decide +kernel
theorem dX7_lay_66 : decode cX7_lay 66 = .ok (.iaload, 1) := by decide +kernel
theorem dX7_lay_67 : decode cX7_lay 67 = .ok (.ifCond .ge 7, 3) := by decide +kernel
theorem dX7_lay_70 : decode cX7_lay 70 = .ok (.ldc_w 315, 3) := by decide +kernel
theorem dX7_lay_73 : decode cX7_lay 73 = .ok (.ireturn, 1) := by decide +kernel
theorem dX7_lay_74 : decode cX7_lay 74 = .ok (.aload_n 0, 1) := by decide +kernel
theorem dX7_lay_75 : decode cX7_lay 75 = .ok (.getfield 28, 3) := by decide +kernel
theorem dX7_lay_78 : decode cX7_lay 78 = .ok (.iload_n 1, 1) := by decide +kernel
theorem dX7_lay_79 : decode cX7_lay 79 = .ok (.iaload, 1) := by decide +kernel
theorem dX7_lay_80 : decode cX7_lay 80 = .ok (.istore 5, 2) := by decide +kernel
theorem dX7_lay_82 : decode cX7_lay 82 = .ok (.aload_n 0, 1) := by decide +kernel
theorem dX7_lay_83 : decode cX7_lay 83 = .ok (.getfield 28, 3) := by decide +kernel
theorem dX7_lay_86 : decode cX7_lay 86 = .ok (.iload_n 1, 1) := by decide +kernel
theorem dX7_lay_87 : decode cX7_lay 87 = .ok (.iload_n 2, 1) := by decide +kernel
theorem dX7_lay_88 : decode cX7_lay 88 = .ok (.iastore, 1) := by decide +kernel
theorem dX7_lay_89 : decode cX7_lay 89 = .ok (.aload_n 0, 1) := by decide +kernel
theorem dX7_lay_90 : decode cX7_lay 90 = .ok (.getfield 31, 3) := by decide +kernel
theorem dX7_lay_93 : decode cX7_lay 93 = .ok (.iload_n 1, 1) := by decide +kernel
theorem dX7_lay_94 : decode cX7_lay 94 = .ok (.iload_n 2, 1) := by decide +kernel
theorem dX7_lay_95 : decode cX7_lay 95 = .ok (.iconst 1, 1) := by decide +kernel
theorem dX7_lay_96 : decode cX7_lay 96 = .ok (.if_icmp .ne 12, 3) := by decide +kernel
theorem dX7_lay_99 : decode cX7_lay 99 = .ok (.aload_n 0, 1) := by decide +kernel
theorem dX7_lay_100 : decode cX7_lay 100 = .ok (.iload_n 3, 1) := by decide +kernel
theorem dX7_lay_101 : decode cX7_lay 101 = .ok (.iconst 0, 1) := by decide +kernel
theorem dX7_lay_102 : decode cX7_lay 102 = .ok (.invokevirtual 80, 3) := by decide +kernel
theorem dX7_lay_105 : decode cX7_lay 105 = .ok (.goto 4, 3) := by decide +kernel
theorem dX7_lay_108 : decode cX7_lay 108 = .ok (.iload_n 3, 1) := by decide +kernel
theorem dX7_lay_109 : decode cX7_lay 109 = .ok (.iastore, 1) := by decide +kernel
theorem dX7_lay_110 : decode cX7_lay 110 = .ok (.aload_n 0, 1) := by decide +kernel
theorem dX7_lay_111 : decode cX7_lay 111 = .ok (.getfield 34, 3) := by decide +kernel
theorem dX7_lay_114 : decode cX7_lay 114 = .ok (.iload_n 1, 1) := by decide +kernel
theorem dX7_lay_115 : decode cX7_lay 115 = .ok (.iload_n 2, 1) := by decide +kernel
theorem dX7_lay_116 : decode cX7_lay 116 = .ok (.iconst 1, 1) := by decide +kernel
theorem dX7_lay_117 : decode cX7_lay 117 = .ok (.if_icmp .ne 11, 3) := by decide +kernel
theorem dX7_lay_120 : decode cX7_lay 120 = .ok (.aload_n 0, 1) := by decide +kernel
theorem dX7_lay_121 : decode cX7_lay 121 = .ok (.iload_n 3, 1) := by decide +kernel
theorem dX7_lay_122 : decode cX7_lay 122 = .ok (.invokevirtual 132, 3) := by decide +kernel
theorem dX7_lay_125 : decode cX7_lay 125 = .ok (.goto 4, 3) := by decide +kernel
theorem dX7_lay_128 : decode cX7_lay 128 = .ok (.iconst 0, 1) := by decide +kernel
theorem dX7_lay_129 : decode cX7_lay 129 = .ok (.iastore, 1) := by decide +kernel
theorem dX7_lay_130 : decode cX7_lay 130 = .ok (.iload_n 2, 1) := by decide +kernel
theorem dX7_lay_131 : decode cX7_lay 131 = .ok (.iconst 2, 1) := by decide +kernel
theorem dX7_lay_132 : decode cX7_lay 132 = .ok (.if_icmp .ne 55, 3) := by decide +kernel
theorem dX7_lay_135 : decode cX7_lay 135 = .ok (.aload_n 0, 1) := by decide +kernel
theorem dX7_lay_136 : decode cX7_lay 136 = .ok (.getfield 37, 3) := by decide +kernel
theorem dX7_lay_139 : decode cX7_lay 139 = .ok (.iload_n 1, 1) := by decide +kernel
theorem dX7_lay_140 : decode cX7_lay 140 = .ok (.aload_n 0, 1) := by decide +kernel
theorem dX7_lay_141 : decode cX7_lay 141 = .ok (.getfield 22, 3) := by decide +kernel
theorem dX7_lay_144 : decode cX7_lay 144 = .ok (.iload_n 3, 1) := by decide +kernel
theorem dX7_lay_145 : decode cX7_lay 145 = .ok (.iaload, 1) := by decide +kernel
theorem dX7_lay_146 : decode cX7_lay 146 = .ok (.iastore, 1) := by decide +kernel
theorem dX7_lay_147 : decode cX7_lay 147 = .ok (.iconst 0, 1) := by decide +kernel
theorem dX7_lay_148 : decode cX7_lay 148 = .ok (.istore 6, 2) := by decide +kernel
theorem dX7_lay_150 : decode cX7_lay 150 = .ok (.iload 6, 2) := by decide +kernel
theorem dX7_lay_152 : decode cX7_lay 152 = .ok (.bipush 24, 2) := by decide +kernel
theorem dX7_lay_154 : decode cX7_lay 154 = .ok (.if_icmp .ge 33, 3) := by decide +kernel
theorem dX7_lay_157 : decode cX7_lay 157 = .ok (.aload_n 0, 1) := by decide +kernel
theorem dX7_lay_158 : decode cX7_lay 158 = .ok (.getfield 40, 3) := by decide +kernel
theorem dX7_lay_161 : decode cX7_lay 161 = .ok (.bipush 24, 2) := by decide +kernel
theorem dX7_lay_163 : decode cX7_lay 163 = .ok (.iload_n 1, 1) := by decide +kernel
theorem dX7_lay_164 : decode cX7_lay 164 = .ok (.imul, 1) := by decide +kernel
theorem dX7_lay_165 : decode cX7_lay 165 = .ok (.iload 6, 2) := by decide +kernel
theorem dX7_lay_167 : decode cX7_lay 167 = .ok (.iadd, 1) := by decide +kernel
theorem dX7_lay_168 : decode cX7_lay 168 = .ok (.aload_n 0, 1) := by decide +kernel
theorem dX7_lay_169 : decode cX7_lay 169 = .ok (.getfield 25, 3) := by decide +kernel
theorem dX7_lay_172 : decode cX7_lay 172 = .ok (.bipush 24, 2) := by decide +kernel
theorem dX7_lay_174 : decode cX7_lay 174 = .ok (.iload_n 3, 1) := by decide +kernel
theorem dX7_lay_175 : decode cX7_lay 175 = .ok (.imul, 1) := by decide +kernel
theorem dX7_lay_176 : decode cX7_lay 176 = .ok (.iload 6, 2) := by decide +kernel
theorem dX7_lay_178 : decode cX7_lay 178 = .ok (.iadd, 1) := by decide +kernel
theorem dX7_lay_179 : decode cX7_lay 179 = .ok (.iaload, 1) := by decide +kernel
theorem dX7_lay_180 : decode cX7_lay 180 = .ok (.iastore, 1) := by decide +kernel
theorem dX7_lay_181 : decode cX7_lay 181 = .ok (.iinc 6 1, 3) := by decide +kernel
theorem dX7_lay_184 : decode cX7_lay 184 = .ok (.goto (-34), 3) := by decide +kernel
theorem dX7_lay_187 : decode cX7_lay 187 = .ok (.iload 5, 2) := by decide +kernel
theorem dX7_lay_189 : decode cX7_lay 189 = .ok (.ireturn, 1) := by decide +kernel
theorem dX7_ask_0 : decode cX7_ask 0 = .ok (.iload_n 1, 1) := by decide +kernel
theorem dX7_ask_1 : decode cX7_ask 1 = .ok (.invokestatic 321, 3) := by decide +kernel
theorem dX7_ask_4 : decode cX7_ask 4 = .ok (.ifCond .eq 15, 3) := by decide +kernel
theorem dX7_ask_7 : decode cX7_ask 7 = .ok (.iload_n 2, 1) := by decide +kernel
theorem dX7_ask_8 : decode cX7_ask 8 = .ok (.i2l, 1) := by decide +kernel
theorem dX7_ask_9 : decode cX7_ask 9 = .ok (.lconst 0, 1) := by decide +kernel
theorem dX7_ask_10 : decode cX7_ask 10 = .ok (.ldc2_w 85, 3) := by decide +kernel
theorem dX7_ask_13 : decode cX7_ask 13 = .ok (.invokestatic 76, 3) := by decide +kernel
theorem dX7_ask_16 : decode cX7_ask 16 = .ok (.ifCond .ne 6, 3) := by decide +kernel
theorem dX7_ask_19 : decode cX7_ask 19 = .ok (.ldc 93, 2) := by decide +kernel
theorem dX7_ask_21 : decode cX7_ask 21 = .ok (.ireturn, 1) := by decide +kernel
theorem dX7_ask_22 : decode cX7_ask 22 = .ok (.aload_n 0, 1) := by decide +kernel
theorem dX7_ask_23 : decode cX7_ask 23 = .ok (.getfield 28, 3) := by decide +kernel
theorem dX7_ask_26 : decode cX7_ask 26 = .ok (.iload_n 1, 1) := by decide +kernel
theorem dX7_ask_27 : decode cX7_ask 27 = .ok (.iaload, 1) := by decide +kernel
theorem dX7_ask_28 : decode cX7_ask 28 = .ok (.ifCond .ne 7, 3) := by decide +kernel
theorem dX7_ask_31 : decode cX7_ask 31 = .ok (.ldc_w 315, 3) := by decide +kernel
theorem dX7_ask_34 : decode cX7_ask 34 = .ok (.ireturn, 1) := by decide +kernel
theorem dX7_ask_35 : decode cX7_ask 35 = .ok (.aload_n 0, 1) := by decide +kernel
theorem dX7_ask_36 : decode cX7_ask 36 = .ok (.getfield 28, 3) := by decide +kernel
theorem dX7_ask_39 : decode cX7_ask 39 = .ok (.iload_n 1, 1) := by decide +kernel
theorem dX7_ask_40 : decode cX7_ask 40 = .ok (.iaload, 1) := by decide +kernel
theorem dX7_ask_41 : decode cX7_ask 41 = .ok (.iconst 1, 1) := by decide +kernel
theorem dX7_ask_42 : decode cX7_ask 42 = .ok (.if_icmp .ne 25, 3) := by decide +kernel
theorem dX7_ask_45 : decode cX7_ask 45 = .ok (.aload_n 0, 1) := by decide +kernel
theorem dX7_ask_46 : decode cX7_ask 46 = .ok (.getfield 31, 3) := by decide +kernel
theorem dX7_ask_49 : decode cX7_ask 49 = .ok (.iload_n 1, 1) := by decide +kernel
theorem dX7_ask_50 : decode cX7_ask 50 = .ok (.iaload, 1) := by decide +kernel
theorem dX7_ask_51 : decode cX7_ask 51 = .ok (.iload_n 2, 1) := by decide +kernel
theorem dX7_ask_52 : decode cX7_ask 52 = .ok (.invokestatic 135, 3) := by decide +kernel
theorem dX7_ask_55 : decode cX7_ask 55 = .ok (.ifCond .eq 12, 3) := by decide +kernel
theorem dX7_ask_58 : decode cX7_ask 58 = .ok (.aload_n 0, 1) := by decide +kernel
theorem dX7_ask_59 : decode cX7_ask 59 = .ok (.getfield 34, 3) := by decide +kernel
theorem dX7_ask_62 : decode cX7_ask 62 = .ok (.iload_n 1, 1) := by decide +kernel
theorem dX7_ask_63 : decode cX7_ask 63 = .ok (.iaload, 1) := by decide +kernel
theorem dX7_ask_64 : decode cX7_ask 64 = .ok (.goto 5, 3) := by decide +kernel
theorem dX7_ask_67 : decode cX7_ask 67 = .ok (.ldc 139, 2) := by decide +kernel
theorem dX7_ask_69 : decode cX7_ask 69 = .ok (.ireturn, 1) := by decide +kernel
theorem dX7_item_0 : decode cX7_item 0 = .ok (.iload_n 1, 1) := by decide +kernel
theorem dX7_item_1 : decode cX7_item 1 = .ok (.invokestatic 321, 3) := by decide +kernel
theorem dX7_item_4 : decode cX7_item 4 = .ok (.ifCond .ne 6, 3) := by decide +kernel
theorem dX7_item_7 : decode cX7_item 7 = .ok (.ldc 93, 2) := by decide +kernel
theorem dX7_item_9 : decode cX7_item 9 = .ok (.ireturn, 1) := by decide +kernel
theorem dX7_item_10 : decode cX7_item 10 = .ok (.aload_n 0, 1) := by decide +kernel
theorem dX7_item_11 : decode cX7_item 11 = .ok (.getfield 28, 3) := by decide +kernel
theorem dX7_item_14 : decode cX7_item 14 = .ok (.iload_n 1, 1) := by decide +kernel
theorem dX7_item_15 : decode cX7_item 15 = .ok (.iaload, 1) := by decide +kernel
theorem dX7_item_16 : decode cX7_item 16 = .ok (.iconst 2, 1) := by decide +kernel
theorem dX7_item_17 : decode cX7_item 17 = .ok (.if_icmp .eq 21, 3) := by decide +kernel
theorem dX7_item_20 : decode cX7_item 20 = .ok (.aload_n 0, 1) := by decide +kernel
theorem dX7_item_21 : decode cX7_item 21 = .ok (.getfield 28, 3) := by decide +kernel
theorem dX7_item_24 : decode cX7_item 24 = .ok (.iload_n 1, 1) := by decide +kernel
theorem dX7_item_25 : decode cX7_item 25 = .ok (.iaload, 1) := by decide +kernel
theorem dX7_item_26 : decode cX7_item 26 = .ok (.ifCond .ne 9, 3) := by decide +kernel
theorem dX7_item_29 : decode cX7_item 29 = .ok (.ldc_w 315, 3) := by decide +kernel
theorem dX7_item_32 : decode cX7_item 32 = .ok (.goto 5, 3) := by decide +kernel
theorem dX7_item_35 : decode cX7_item 35 = .ok (.ldc 139, 2) := by decide +kernel
theorem dX7_item_37 : decode cX7_item 37 = .ok (.ireturn, 1) := by decide +kernel
theorem dX7_item_38 : decode cX7_item 38 = .ok (.iload_n 2, 1) := by decide +kernel
theorem dX7_item_39 : decode cX7_item 39 = .ok (.i2l, 1) := by decide +kernel
theorem dX7_item_40 : decode cX7_item 40 = .ok (.lconst 0, 1) := by decide +kernel
theorem dX7_item_41 : decode cX7_item 41 = .ok (.aload_n 0, 1) := by decide +kernel
theorem dX7_item_42 : decode cX7_item 42 = .ok (.getfield 37, 3) := by decide +kernel
theorem dX7_item_45 : decode cX7_item 45 = .ok (.iload_n 1, 1) := by decide +kernel
theorem dX7_item_46 : decode cX7_item 46 = .ok (.iaload, 1) := by decide +kernel
theorem dX7_item_47 : decode cX7_item 47 = .ok (.iconst 1, 1) := by decide +kernel
theorem dX7_item_48 : decode cX7_item 48 = .ok (.isub, 1) := by decide +kernel
theorem dX7_item_49 : decode cX7_item 49 = .ok (.i2l, 1) := by decide +kernel
theorem dX7_item_50 : decode cX7_item 50 = .ok (.invokestatic 76, 3) := by decide +kernel
theorem dX7_item_53 : decode cX7_item 53 = .ok (.ifCond .ne 7, 3) := by decide +kernel
theorem dX7_item_56 : decode cX7_item 56 = .ok (.ldc_w 316, 3) := by decide +kernel
theorem dX7_item_59 : decode cX7_item 59 = .ok (.ireturn, 1) := by decide +kernel
theorem dX7_item_60 : decode cX7_item 60 = .ok (.aload_n 0, 1) := by decide +kernel
theorem dX7_item_61 : decode cX7_item 61 = .ok (.getfield 40, 3) := by decide +kernel
theorem dX7_item_64 : decode cX7_item 64 = .ok (.bipush 24, 2) := by decide +kernel
theorem dX7_item_66 : decode cX7_item 66 = .ok (.iload_n 1, 1) := by decide +kernel
theorem dX7_item_67 : decode cX7_item 67 = .ok (.imul, 1) := by decide +kernel
theorem dX7_item_68 : decode cX7_item 68 = .ok (.iload_n 2, 1) := by decide +kernel
theorem dX7_item_69 : decode cX7_item 69 = .ok (.iadd, 1) := by decide +kernel
theorem dX7_item_70 : decode cX7_item 70 = .ok (.iaload, 1) := by decide +kernel
theorem dX7_item_71 : decode cX7_item 71 = .ok (.istore_n 3, 1) := by decide +kernel
theorem dX7_item_72 : decode cX7_item 72 = .ok (.iload_n 3, 1) := by decide +kernel
theorem dX7_item_73 : decode cX7_item 73 = .ok (.ldc 71, 2) := by decide +kernel
theorem dX7_item_75 : decode cX7_item 75 = .ok (.if_icmp .ne 8, 3) := by decide +kernel
theorem dX7_item_78 : decode cX7_item 78 = .ok (.ldc 139, 2) := by decide +kernel
theorem dX7_item_80 : decode cX7_item 80 = .ok (.goto 4, 3) := by decide +kernel
theorem dX7_item_83 : decode cX7_item 83 = .ok (.iload_n 3, 1) := by decide +kernel
theorem dX7_item_84 : decode cX7_item 84 = .ok (.ireturn, 1) := by decide +kernel
theorem dX7_rest_0 : decode cX7_rest 0 = .ok (.iload_n 1, 1) := by decide +kernel
theorem dX7_rest_1 : decode cX7_rest 1 = .ok (.invokestatic 321, 3) := by decide +kernel
theorem dX7_rest_4 : decode cX7_rest 4 = .ok (.ifCond .ne 6, 3) := by decide +kernel
theorem dX7_rest_7 : decode cX7_rest 7 = .ok (.ldc 93, 2) := by decide +kernel
theorem dX7_rest_9 : decode cX7_rest 9 = .ok (.ireturn, 1) := by decide +kernel
theorem dX7_rest_10 : decode cX7_rest 10 = .ok (.aload_n 0, 1) := by decide +kernel
theorem dX7_rest_11 : decode cX7_rest 11 = .ok (.getfield 28, 3) := by decide +kernel
theorem dX7_rest_14 : decode cX7_rest 14 = .ok (.iload_n 1, 1) := by decide +kernel
theorem dX7_rest_15 : decode cX7_rest 15 = .ok (.iaload, 1) := by decide +kernel
theorem dX7_rest_16 : decode cX7_rest 16 = .ok (.iconst 3, 1) := by decide +kernel
theorem dX7_rest_17 : decode cX7_rest 17 = .ok (.if_icmp .eq 21, 3) := by decide +kernel
theorem dX7_rest_20 : decode cX7_rest 20 = .ok (.aload_n 0, 1) := by decide +kernel
theorem dX7_rest_21 : decode cX7_rest 21 = .ok (.getfield 28, 3) := by decide +kernel
theorem dX7_rest_24 : decode cX7_rest 24 = .ok (.iload_n 1, 1) := by decide +kernel
theorem dX7_rest_25 : decode cX7_rest 25 = .ok (.iaload, 1) := by decide +kernel
theorem dX7_rest_26 : decode cX7_rest 26 = .ok (.ifCond .ne 9, 3) := by decide +kernel
theorem dX7_rest_29 : decode cX7_rest 29 = .ok (.ldc_w 315, 3) := by decide +kernel
theorem dX7_rest_32 : decode cX7_rest 32 = .ok (.goto 5, 3) := by decide +kernel
theorem dX7_rest_35 : decode cX7_rest 35 = .ok (.ldc 139, 2) := by decide +kernel
theorem dX7_rest_37 : decode cX7_rest 37 = .ok (.ireturn, 1) := by decide +kernel
theorem dX7_rest_38 : decode cX7_rest 38 = .ok (.iload_n 2, 1) := by decide +kernel
theorem dX7_rest_39 : decode cX7_rest 39 = .ok (.ifCond .ne 8, 3) := by decide +kernel
theorem dX7_rest_42 : decode cX7_rest 42 = .ok (.ldc 206, 2) := by decide +kernel
theorem dX7_rest_44 : decode cX7_rest 44 = .ok (.goto 11, 3) := by decide +kernel
theorem dX7_rest_47 : decode cX7_rest 47 = .ok (.aload_n 0, 1) := by decide +kernel
theorem dX7_rest_48 : decode cX7_rest 48 = .ok (.getfield 31, 3) := by decide +kernel
theorem dX7_rest_51 : decode cX7_rest 51 = .ok (.iload_n 1, 1) := by decide +kernel
theorem dX7_rest_52 : decode cX7_rest 52 = .ok (.iaload, 1) := by decide +kernel
theorem dX7_rest_53 : decode cX7_rest 53 = .ok (.iload_n 2, 1) := by decide +kernel
theorem dX7_rest_54 : decode cX7_rest 54 = .ok (.irem, 1) := by decide +kernel
theorem dX7_rest_55 : decode cX7_rest 55 = .ok (.ireturn, 1) := by decide +kernel
theorem dX7_tell_0 : decode cX7_tell 0 = .ok (.aload_n 0, 1) := by decide +kernel
theorem dX7_tell_1 : decode cX7_tell 1 = .ok (.getfield 324, 3) := by decide +kernel
theorem dX7_tell_4 : decode cX7_tell 4 = .ok (.bipush 60, 2) := by decide +kernel
theorem dX7_tell_6 : decode cX7_tell 6 = .ok (.if_icmp .ne 6, 3) := by decide +kernel
theorem dX7_tell_9 : decode cX7_tell 9 = .ok (.ldc 94, 2) := by decide +kernel
theorem dX7_tell_11 : decode cX7_tell 11 = .ok (.ireturn, 1) := by decide +kernel
theorem dX7_tell_12 : decode cX7_tell 12 = .ok (.aload_n 0, 1) := by decide +kernel
theorem dX7_tell_13 : decode cX7_tell 13 = .ok (.getfield 65, 3) := by decide +kernel
theorem dX7_tell_16 : decode cX7_tell 16 = .ok (.aload_n 0, 1) := by decide +kernel
theorem dX7_tell_17 : decode cX7_tell 17 = .ok (.getfield 324, 3) := by decide +kernel
theorem dX7_tell_20 : decode cX7_tell 20 = .ok (.iload_n 1, 1) := by decide +kernel
theorem dX7_tell_21 : decode cX7_tell 21 = .ok (.iastore, 1) := by decide +kernel
theorem dX7_tell_22 : decode cX7_tell 22 = .ok (.aload_n 0, 1) := by decide +kernel
theorem dX7_tell_23 : decode cX7_tell 23 = .ok (.dup, 1) := by decide +kernel
theorem dX7_tell_24 : decode cX7_tell 24 = .ok (.getfield 324, 3) := by decide +kernel
theorem dX7_tell_27 : decode cX7_tell 27 = .ok (.iconst 1, 1) := by decide +kernel
theorem dX7_tell_28 : decode cX7_tell 28 = .ok (.iadd, 1) := by decide +kernel
theorem dX7_tell_29 : decode cX7_tell 29 = .ok (.putfield 324, 3) := by decide +kernel
theorem dX7_tell_32 : decode cX7_tell 32 = .ok (.aload_n 0, 1) := by decide +kernel
theorem dX7_tell_33 : decode cX7_tell 33 = .ok (.getfield 324, 3) := by decide +kernel
theorem dX7_tell_36 : decode cX7_tell 36 = .ok (.ireturn, 1) := by decide +kernel
theorem dX7_setAside_0 : decode cX7_setAside 0 = .ok (.iconst 0, 1) := by decide +kernel
theorem dX7_setAside_1 : decode cX7_setAside 1 = .ok (.istore_n 3, 1) := by decide +kernel
theorem dX7_setAside_2 : decode cX7_setAside 2 = .ok (.iload_n 3, 1) := by decide +kernel
theorem dX7_setAside_3 : decode cX7_setAside 3 = .ok (.sipush 2870, 3) := by decide +kernel
theorem dX7_setAside_6 : decode cX7_setAside 6 = .ok (.if_icmp .ge 15, 3) := by decide +kernel
theorem dX7_setAside_9 : decode cX7_setAside 9 = .ok (.aload_n 2, 1) := by decide +kernel
theorem dX7_setAside_10 : decode cX7_setAside 10 = .ok (.iload_n 3, 1) := by decide +kernel
theorem dX7_setAside_11 : decode cX7_setAside 11 = .ok (.aload_n 1, 1) := by decide +kernel
theorem dX7_setAside_12 : decode cX7_setAside 12 = .ok (.iload_n 3, 1) := by decide +kernel
theorem dX7_setAside_13 : decode cX7_setAside 13 = .ok (.iaload, 1) := by decide +kernel
theorem dX7_setAside_14 : decode cX7_setAside 14 = .ok (.iastore, 1) := by decide +kernel
theorem dX7_setAside_15 : decode cX7_setAside 15 = .ok (.iinc 3 1, 3) := by decide +kernel
theorem dX7_setAside_18 : decode cX7_setAside 18 = .ok (.goto (-16), 3) := by decide +kernel
theorem dX7_setAside_21 : decode cX7_setAside 21 = .ok (.return_, 1) := by decide +kernel
theorem dX7_check_0 : decode cX7_check 0 = .ok (.aload_n 0, 1) := by decide +kernel
theorem dX7_check_1 : decode cX7_check 1 = .ok (.getfield 324, 3) := by decide +kernel
theorem dX7_check_4 : decode cX7_check 4 = .ok (.istore_n 2, 1) := by decide +kernel
theorem dX7_check_5 : decode cX7_check 5 = .ok (.aload_n 0, 1) := by decide +kernel
theorem dX7_check_6 : decode cX7_check 6 = .ok (.iconst 0, 1) := by decide +kernel
theorem dX7_check_7 : decode cX7_check 7 = .ok (.putfield 324, 3) := by decide +kernel
theorem dX7_check_10 : decode cX7_check 10 = .ok (.iload_n 1, 1) := by decide +kernel
theorem dX7_check_11 : decode cX7_check 11 = .ok (.i2l, 1) := by decide +kernel
theorem dX7_check_12 : decode cX7_check 12 = .ok (.lconst 1, 1) := by decide +kernel
theorem dX7_check_13 : decode cX7_check 13 = .ok (.ldc2_w 327, 3) := by decide +kernel
theorem dX7_check_16 : decode cX7_check 16 = .ok (.invokestatic 76, 3) := by decide +kernel
theorem dX7_check_19 : decode cX7_check 19 = .ok (.ifCond .ne 6, 3) := by decide +kernel
theorem dX7_check_22 : decode cX7_check 22 = .ok (.ldc 93, 2) := by decide +kernel
theorem dX7_check_24 : decode cX7_check 24 = .ok (.ireturn, 1) := by decide +kernel
theorem dX7_check_25 : decode cX7_check 25 = .ok (.aload_n 0, 1) := by decide +kernel
theorem dX7_check_26 : decode cX7_check 26 = .ok (.getfield 329, 3) := by decide +kernel
theorem dX7_check_29 : decode cX7_check 29 = .ok (.ifCond .ne 6, 3) := by decide +kernel
theorem dX7_check_32 : decode cX7_check 32 = .ok (.ldc 206, 2) := by decide +kernel
theorem dX7_check_34 : decode cX7_check 34 = .ok (.ireturn, 1) := by decide +kernel
theorem dX7_check_35 : decode cX7_check 35 = .ok (.aload_n 0, 1) := by decide +kernel
theorem dX7_check_36 : decode cX7_check 36 = .ok (.aload_n 0, 1) := by decide +kernel
theorem dX7_check_37 : decode cX7_check 37 = .ok (.getfield 7, 3) := by decide +kernel
theorem dX7_check_40 : decode cX7_check 40 = .ok (.aload_n 0, 1) := by decide +kernel
theorem dX7_check_41 : decode cX7_check 41 = .ok (.getfield 16, 3) := by decide +kernel
theorem dX7_check_44 : decode cX7_check 44 = .ok (.invokevirtual 333, 3) := by decide +kernel
theorem dX7_check_47 : decode cX7_check 47 = .ok (.aload_n 0, 1) := by decide +kernel
theorem dX7_check_48 : decode cX7_check 48 = .ok (.aload_n 0, 1) := by decide +kernel
theorem dX7_check_49 : decode cX7_check 49 = .ok (.getfield 13, 3) := by decide +kernel
theorem dX7_check_52 : decode cX7_check 52 = .ok (.aload_n 0, 1) := by decide +kernel
theorem dX7_check_53 : decode cX7_check 53 = .ok (.getfield 7, 3) := by decide +kernel
theorem dX7_check_56 : decode cX7_check 56 = .ok (.invokevirtual 333, 3) := by decide +kernel
theorem dX7_check_59 : decode cX7_check 59 = .ok (.iconst 0, 1) := by decide +kernel
theorem dX7_check_60 : decode cX7_check 60 = .ok (.istore_n 3, 1) := by decide +kernel
theorem dX7_check_61 : decode cX7_check 61 = .ok (.iload_n 3, 1) := by decide +kernel
theorem dX7_check_62 : decode cX7_check 62 = .ok (.iload_n 1, 1) := by decide +kernel
theorem dX7_check_63 : decode cX7_check 63 = .ok (.if_icmp .ge 35, 3) := by decide +kernel
theorem dX7_check_66 : decode cX7_check 66 = .ok (.aload_n 0, 1) := by decide +kernel
theorem dX7_check_67 : decode cX7_check 67 = .ok (.getfield 68, 3) := by decide +kernel
theorem dX7_check_70 : decode cX7_check 70 = .ok (.iconst 2, 1) := by decide +kernel
theorem dX7_check_71 : decode cX7_check 71 = .ok (.iload_n 3, 1) := by decide +kernel
theorem dX7_check_72 : decode cX7_check 72 = .ok (.imul, 1) := by decide +kernel
theorem dX7_check_73 : decode cX7_check 73 = .ok (.iconst 1, 1) := by decide +kernel
theorem dX7_check_74 : decode cX7_check 74 = .ok (.iadd, 1) := by decide +kernel
theorem dX7_check_75 : decode cX7_check 75 = .ok (.aload_n 0, 1) := by decide +kernel
theorem dX7_check_76 : decode cX7_check 76 = .ok (.invokevirtual 167, 3) := by decide +kernel
theorem dX7_check_79 : decode cX7_check 79 = .ok (.iastore, 1) := by decide +kernel
theorem dX7_check_80 : decode cX7_check 80 = .ok (.aload_n 0, 1) := by decide +kernel
theorem dX7_check_81 : decode cX7_check 81 = .ok (.getfield 68, 3) := by decide +kernel
theorem dX7_check_84 : decode cX7_check 84 = .ok (.iconst 2, 1) := by decide +kernel
theorem dX7_check_85 : decode cX7_check 85 = .ok (.iload_n 3, 1) := by decide +kernel
theorem dX7_check_86 : decode cX7_check 86 = .ok (.imul, 1) := by decide +kernel
theorem dX7_check_87 : decode cX7_check 87 = .ok (.aload_n 0, 1) := by decide +kernel
theorem dX7_check_88 : decode cX7_check 88 = .ok (.invokevirtual 337, 3) := by decide +kernel
theorem dX7_check_91 : decode cX7_check 91 = .ok (.iastore, 1) := by decide +kernel
theorem dX7_check_92 : decode cX7_check 92 = .ok (.iinc 3 1, 3) := by decide +kernel
theorem dX7_check_95 : decode cX7_check 95 = .ok (.goto (-34), 3) := by decide +kernel
theorem dX7_check_98 : decode cX7_check 98 = .ok (.aload_n 0, 1) := by decide +kernel
theorem dX7_check_99 : decode cX7_check 99 = .ok (.aload_n 0, 1) := by decide +kernel
theorem dX7_check_100 : decode cX7_check 100 = .ok (.getfield 16, 3) := by decide +kernel
theorem dX7_check_103 : decode cX7_check 103 = .ok (.aload_n 0, 1) := by decide +kernel
theorem dX7_check_104 : decode cX7_check 104 = .ok (.getfield 7, 3) := by decide +kernel
theorem dX7_check_107 : decode cX7_check 107 = .ok (.invokevirtual 333, 3) := by decide +kernel
theorem dX7_check_110 : decode cX7_check 110 = .ok (.iconst 0, 1) := by decide +kernel
theorem dX7_check_111 : decode cX7_check 111 = .ok (.istore_n 3, 1) := by decide +kernel
theorem dX7_check_112 : decode cX7_check 112 = .ok (.iload_n 3, 1) := by decide +kernel
theorem dX7_check_113 : decode cX7_check 113 = .ok (.iload_n 2, 1) := by decide +kernel
theorem dX7_check_114 : decode cX7_check 114 = .ok (.if_icmp .ge 31, 3) := by decide +kernel
theorem dX7_check_117 : decode cX7_check 117 = .ok (.iload_n 3, 1) := by decide +kernel
theorem dX7_check_118 : decode cX7_check 118 = .ok (.iconst 2, 1) := by decide +kernel
theorem dX7_check_119 : decode cX7_check 119 = .ok (.iload_n 1, 1) := by decide +kernel
theorem dX7_check_120 : decode cX7_check 120 = .ok (.imul, 1) := by decide +kernel
theorem dX7_check_121 : decode cX7_check 121 = .ok (.if_icmp .ge 24, 3) := by decide +kernel
theorem dX7_check_124 : decode cX7_check 124 = .ok (.aload_n 0, 1) := by decide +kernel
theorem dX7_check_125 : decode cX7_check 125 = .ok (.getfield 65, 3) := by decide +kernel
theorem dX7_check_128 : decode cX7_check 128 = .ok (.iload_n 3, 1) := by decide +kernel
theorem dX7_check_129 : decode cX7_check 129 = .ok (.iaload, 1) := by decide +kernel
theorem dX7_check_130 : decode cX7_check 130 = .ok (.aload_n 0, 1) := by decide +kernel
theorem dX7_check_131 : decode cX7_check 131 = .ok (.getfield 68, 3) := by decide +kernel
theorem dX7_check_134 : decode cX7_check 134 = .ok (.iload_n 3, 1) := by decide +kernel
theorem dX7_check_135 : decode cX7_check 135 = .ok (.iaload, 1) := by decide +kernel
theorem dX7_check_136 : decode cX7_check 136 = .ok (.if_icmp .ne 9, 3) := by decide +kernel
theorem dX7_check_139 : decode cX7_check 139 = .ok (.iinc 3 1, 3) := by decide +kernel
theorem dX7_check_142 : decode cX7_check 142 = .ok (.goto (-30), 3) := by decide +kernel
theorem dX7_check_145 : decode cX7_check 145 = .ok (.iload_n 3, 1) := by decide +kernel
theorem dX7_check_146 : decode cX7_check 146 = .ok (.iload_n 2, 1) := by decide +kernel
theorem dX7_check_147 : decode cX7_check 147 = .ok (.if_icmp .ne 14, 3) := by decide +kernel
theorem dX7_check_150 : decode cX7_check 150 = .ok (.iload_n 3, 1) := by decide +kernel
theorem dX7_check_151 : decode cX7_check 151 = .ok (.iconst 2, 1) := by decide +kernel
theorem dX7_check_152 : decode cX7_check 152 = .ok (.iload_n 1, 1) := by decide +kernel
theorem dX7_check_153 : decode cX7_check 153 = .ok (.imul, 1) := by decide +kernel
theorem dX7_check_154 : decode cX7_check 154 = .ok (.if_icmp .ne 7, 3) := by decide +kernel
theorem dX7_check_157 : decode cX7_check 157 = .ok (.iconst 0, 1) := by decide +kernel
theorem dX7_check_158 : decode cX7_check 158 = .ok (.goto 6, 3) := by decide +kernel
theorem dX7_check_161 : decode cX7_check 161 = .ok (.iconst 1, 1) := by decide +kernel
theorem dX7_check_162 : decode cX7_check 162 = .ok (.iload_n 3, 1) := by decide +kernel
theorem dX7_check_163 : decode cX7_check 163 = .ok (.iadd, 1) := by decide +kernel
theorem dX7_check_164 : decode cX7_check 164 = .ok (.ireturn, 1) := by decide +kernel
theorem dX7_keep_0 : decode cX7_keep 0 = .ok (.aload_n 0, 1) := by decide +kernel
theorem dX7_keep_1 : decode cX7_keep 1 = .ok (.iconst 1, 1) := by decide +kernel
theorem dX7_keep_2 : decode cX7_keep 2 = .ok (.putfield 329, 3) := by decide +kernel
theorem dX7_keep_5 : decode cX7_keep 5 = .ok (.aload_n 0, 1) := by decide +kernel
theorem dX7_keep_6 : decode cX7_keep 6 = .ok (.aload_n 0, 1) := by decide +kernel
theorem dX7_keep_7 : decode cX7_keep 7 = .ok (.getfield 7, 3) := by decide +kernel
theorem dX7_keep_10 : decode cX7_keep 10 = .ok (.aload_n 0, 1) := by decide +kernel
theorem dX7_keep_11 : decode cX7_keep 11 = .ok (.getfield 13, 3) := by decide +kernel
theorem dX7_keep_14 : decode cX7_keep 14 = .ok (.invokevirtual 333, 3) := by decide +kernel
theorem dX7_keep_17 : decode cX7_keep 17 = .ok (.aload_n 0, 1) := by decide +kernel
theorem dX7_keep_18 : decode cX7_keep 18 = .ok (.getfield 7, 3) := by decide +kernel
theorem dX7_keep_21 : decode cX7_keep 21 = .ok (.iconst 0, 1) := by decide +kernel
theorem dX7_keep_22 : decode cX7_keep 22 = .ok (.iaload, 1) := by decide +kernel
theorem dX7_keep_23 : decode cX7_keep 23 = .ok (.ireturn, 1) := by decide +kernel
theorem dX7_back_0 : decode cX7_back 0 = .ok (.aload_n 0, 1) := by decide +kernel
theorem dX7_back_1 : decode cX7_back 1 = .ok (.getfield 329, 3) := by decide +kernel
theorem dX7_back_4 : decode cX7_back 4 = .ok (.ifCond .ne 6, 3) := by decide +kernel
theorem dX7_back_7 : decode cX7_back 7 = .ok (.ldc 206, 2) := by decide +kernel
theorem dX7_back_9 : decode cX7_back 9 = .ok (.ireturn, 1) := by decide +kernel
theorem dX7_back_10 : decode cX7_back 10 = .ok (.aload_n 0, 1) := by decide +kernel
theorem dX7_back_11 : decode cX7_back 11 = .ok (.aload_n 0, 1) := by decide +kernel
theorem dX7_back_12 : decode cX7_back 12 = .ok (.getfield 13, 3) := by decide +kernel
theorem dX7_back_15 : decode cX7_back 15 = .ok (.aload_n 0, 1) := by decide +kernel
theorem dX7_back_16 : decode cX7_back 16 = .ok (.getfield 7, 3) := by decide +kernel
theorem dX7_back_19 : decode cX7_back 19 = .ok (.invokevirtual 333, 3) := by decide +kernel
theorem dX7_back_22 : decode cX7_back 22 = .ok (.aload_n 0, 1) := by decide +kernel
theorem dX7_back_23 : decode cX7_back 23 = .ok (.getfield 7, 3) := by decide +kernel
theorem dX7_back_26 : decode cX7_back 26 = .ok (.iconst 0, 1) := by decide +kernel
theorem dX7_back_27 : decode cX7_back 27 = .ok (.iaload, 1) := by decide +kernel
theorem dX7_back_28 : decode cX7_back 28 = .ok (.ireturn, 1) := by decide +kernel
theorem dX7_litMany_0 : decode cX7_litMany 0 = .ok (.iconst 0, 1) := by decide +kernel
theorem dX7_litMany_1 : decode cX7_litMany 1 = .ok (.istore_n 1, 1) := by decide +kernel
theorem dX7_litMany_2 : decode cX7_litMany 2 = .ok (.iconst 0, 1) := by decide +kernel
theorem dX7_litMany_3 : decode cX7_litMany 3 = .ok (.istore_n 2, 1) := by decide +kernel
theorem dX7_litMany_4 : decode cX7_litMany 4 = .ok (.iload_n 2, 1) := by decide +kernel
theorem dX7_litMany_5 : decode cX7_litMany 5 = .ok (.aload_n 0, 1) := by decide +kernel
theorem dX7_litMany_6 : decode cX7_litMany 6 = .ok (.getfield 7, 3) := by decide +kernel
theorem dX7_litMany_9 : decode cX7_litMany 9 = .ok (.iconst 0, 1) := by decide +kernel
theorem dX7_litMany_10 : decode cX7_litMany 10 = .ok (.iaload, 1) := by decide +kernel
theorem dX7_litMany_11 : decode cX7_litMany 11 = .ok (.if_icmp .ge 25, 3) := by decide +kernel
theorem dX7_litMany_14 : decode cX7_litMany 14 = .ok (.iload_n 1, 1) := by decide +kernel
theorem dX7_litMany_15 : decode cX7_litMany 15 = .ok (.aload_n 0, 1) := by decide +kernel
theorem dX7_litMany_16 : decode cX7_litMany 16 = .ok (.iload_n 2, 1) := by decide +kernel
theorem dX7_litMany_17 : decode cX7_litMany 17 = .ok (.invokevirtual 109, 3) := by decide +kernel
theorem dX7_litMany_20 : decode cX7_litMany 20 = .ok (.ifCond .eq 7, 3) := by decide +kernel
theorem dX7_litMany_23 : decode cX7_litMany 23 = .ok (.iconst 1, 1) := by decide +kernel
theorem dX7_litMany_24 : decode cX7_litMany 24 = .ok (.goto 4, 3) := by decide +kernel
theorem dX7_litMany_27 : decode cX7_litMany 27 = .ok (.iconst 0, 1) := by decide +kernel
theorem dX7_litMany_28 : decode cX7_litMany 28 = .ok (.iadd, 1) := by decide +kernel
theorem dX7_litMany_29 : decode cX7_litMany 29 = .ok (.istore_n 1, 1) := by decide +kernel
theorem dX7_litMany_30 : decode cX7_litMany 30 = .ok (.iinc 2 1, 3) := by decide +kernel
theorem dX7_litMany_33 : decode cX7_litMany 33 = .ok (.goto (-29), 3) := by decide +kernel
theorem dX7_litMany_36 : decode cX7_litMany 36 = .ok (.iload_n 1, 1) := by decide +kernel
theorem dX7_litMany_37 : decode cX7_litMany 37 = .ok (.ireturn, 1) := by decide +kernel
theorem dX7_count_0 : decode cX7_count 0 = .ok (.iload_n 1, 1) := by decide +kernel
theorem dX7_count_1 : decode cX7_count 1 = .ok (.tableswitch 108 0 8 #[51, 58, 63, 70, 77, 84, 91, 96, 101], 51) := by decide +kernel
theorem dX7_count_52 : decode cX7_count 52 = .ok (.aload_n 0, 1) := by decide +kernel
theorem dX7_count_53 : decode cX7_count 53 = .ok (.getfield 7, 3) := by decide +kernel
theorem dX7_count_56 : decode cX7_count 56 = .ok (.iconst 0, 1) := by decide +kernel
theorem dX7_count_57 : decode cX7_count 57 = .ok (.iaload, 1) := by decide +kernel
theorem dX7_count_58 : decode cX7_count 58 = .ok (.ireturn, 1) := by decide +kernel
theorem dX7_count_59 : decode cX7_count 59 = .ok (.aload_n 0, 1) := by decide +kernel
theorem dX7_count_60 : decode cX7_count 60 = .ok (.invokevirtual 340, 3) := by decide +kernel
theorem dX7_count_63 : decode cX7_count 63 = .ok (.ireturn, 1) := by decide +kernel
theorem dX7_count_64 : decode cX7_count 64 = .ok (.aload_n 0, 1) := by decide +kernel
theorem dX7_count_65 : decode cX7_count 65 = .ok (.getfield 7, 3) := by decide +kernel
theorem dX7_count_68 : decode cX7_count 68 = .ok (.iconst 2, 1) := by decide +kernel
theorem dX7_count_69 : decode cX7_count 69 = .ok (.iaload, 1) := by decide +kernel
theorem dX7_count_70 : decode cX7_count 70 = .ok (.ireturn, 1) := by decide +kernel
theorem dX7_count_71 : decode cX7_count 71 = .ok (.aload_n 0, 1) := by decide +kernel
theorem dX7_count_72 : decode cX7_count 72 = .ok (.getfield 7, 3) := by decide +kernel
theorem dX7_count_75 : decode cX7_count 75 = .ok (.iconst 3, 1) := by decide +kernel
theorem dX7_count_76 : decode cX7_count 76 = .ok (.iaload, 1) := by decide +kernel
theorem dX7_count_77 : decode cX7_count 77 = .ok (.ireturn, 1) := by decide +kernel
theorem dX7_count_78 : decode cX7_count 78 = .ok (.aload_n 0, 1) := by decide +kernel
theorem dX7_count_79 : decode cX7_count 79 = .ok (.getfield 7, 3) := by decide +kernel
theorem dX7_count_82 : decode cX7_count 82 = .ok (.iconst 4, 1) := by decide +kernel
theorem dX7_count_83 : decode cX7_count 83 = .ok (.iaload, 1) := by decide +kernel
theorem dX7_count_84 : decode cX7_count 84 = .ok (.ireturn, 1) := by decide +kernel
theorem dX7_count_85 : decode cX7_count 85 = .ok (.aload_n 0, 1) := by decide +kernel
theorem dX7_count_86 : decode cX7_count 86 = .ok (.getfield 7, 3) := by decide +kernel
theorem dX7_count_89 : decode cX7_count 89 = .ok (.iconst 1, 1) := by decide +kernel
theorem dX7_count_90 : decode cX7_count 90 = .ok (.iaload, 1) := by decide +kernel
theorem dX7_count_91 : decode cX7_count 91 = .ok (.ireturn, 1) := by decide +kernel
theorem dX7_count_92 : decode cX7_count 92 = .ok (.aload_n 0, 1) := by decide +kernel
theorem dX7_count_93 : decode cX7_count 93 = .ok (.getfield 324, 3) := by decide +kernel
theorem dX7_count_96 : decode cX7_count 96 = .ok (.ireturn, 1) := by decide +kernel
theorem dX7_count_97 : decode cX7_count 97 = .ok (.aload_n 0, 1) := by decide +kernel
theorem dX7_count_98 : decode cX7_count 98 = .ok (.getfield 209, 3) := by decide +kernel
theorem dX7_count_101 : decode cX7_count 101 = .ok (.ireturn, 1) := by decide +kernel
theorem dX7_count_102 : decode cX7_count 102 = .ok (.aload_n 0, 1) := by decide +kernel
theorem dX7_count_103 : decode cX7_count 103 = .ok (.getfield 7, 3) := by decide +kernel
theorem dX7_count_106 : decode cX7_count 106 = .ok (.iconst 5, 1) := by decide +kernel
theorem dX7_count_107 : decode cX7_count 107 = .ok (.iaload, 1) := by decide +kernel
theorem dX7_count_108 : decode cX7_count 108 = .ok (.ireturn, 1) := by decide +kernel
theorem dX7_count_109 : decode cX7_count 109 = .ok (.ldc 93, 2) := by decide +kernel
theorem dX7_count_111 : decode cX7_count 111 = .ok (.ireturn, 1) := by decide +kernel
