theorem dX3_goodSigns_47 : decode cX3_goodSigns 47 = .ok (.iconst 2, 1) := by decide +kernel
theorem dX3_goodSigns_48 : decode cX3_goodSigns 48 = .ok (.iadd, 1) := by decide +kernel
theorem dX3_goodSigns_49 : decode cX3_goodSigns 49 = .ok (.iaload, 1) := by decide +kernel
theorem dX3_goodSigns_50 : decode cX3_goodSigns 50 = .ok (.invokestatic 353, 3) := by decide +kernel
theorem dX3_goodSigns_53 : decode cX3_goodSigns 53 = .ok (.ifCond .ne 7, 3) := by decide +kernel
theorem dX3_goodSigns_56 : decode cX3_goodSigns 56 = .ok (.iconst 2, 1) := by decide +kernel
theorem dX3_goodSigns_57 : decode cX3_goodSigns 57 = .ok (.goto 4, 3) := by decide +kernel
theorem dX3_goodSigns_60 : decode cX3_goodSigns 60 = .ok (.iconst 3, 1) := by decide +kernel
theorem dX3_goodSigns_61 : decode cX3_goodSigns 61 = .ok (.ireturn, 1) := by decide +kernel
theorem dX3_kindOfLetter_0 : decode cX3_kindOfLetter 0 = .ok (.iconst 0, 1) := by decide +kernel
theorem dX3_kindOfLetter_1 : decode cX3_kindOfLetter 1 = .ok (.istore_n 1, 1) := by decide +kernel
theorem dX3_kindOfLetter_2 : decode cX3_kindOfLetter 2 = .ok (.iload_n 1, 1) := by decide +kernel
theorem dX3_kindOfLetter_3 : decode cX3_kindOfLetter 3 = .ok (.bipush 6, 2) := by decide +kernel
theorem dX3_kindOfLetter_5 : decode cX3_kindOfLetter 5 = .ok (.if_icmp .ge 20, 3) := by decide +kernel
theorem dX3_kindOfLetter_8 : decode cX3_kindOfLetter 8 = .ok (.getstatic 356, 3) := by decide +kernel
theorem dX3_kindOfLetter_11 : decode cX3_kindOfLetter 11 = .ok (.iload_n 1, 1) := by decide +kernel
theorem dX3_kindOfLetter_12 : decode cX3_kindOfLetter 12 = .ok (.iaload, 1) := by decide +kernel
theorem dX3_kindOfLetter_13 : decode cX3_kindOfLetter 13 = .ok (.iload_n 0, 1) := by decide +kernel
theorem dX3_kindOfLetter_14 : decode cX3_kindOfLetter 14 = .ok (.if_icmp .ne 5, 3) := by decide +kernel
theorem dX3_kindOfLetter_17 : decode cX3_kindOfLetter 17 = .ok (.iload_n 1, 1) := by decide +kernel
theorem dX3_kindOfLetter_18 : decode cX3_kindOfLetter 18 = .ok (.ireturn, 1) := by decide +kernel
theorem dX3_kindOfLetter_19 : decode cX3_kindOfLetter 19 = .ok (.iinc 1 1, 3) := by decide +kernel
theorem dX3_kindOfLetter_22 : decode cX3_kindOfLetter 22 = .ok (.goto (-20), 3) := by decide +kernel
theorem dX3_kindOfLetter_25 : decode cX3_kindOfLetter 25 = .ok (.bipush (-9), 2) := by decide +kernel
theorem dX3_kindOfLetter_27 : decode cX3_kindOfLetter 27 = .ok (.ireturn, 1) := by decide +kernel
theorem dX3_isFigure_0 : decode cX3_isFigure 0 = .ok (.iload_n 0, 1) := by decide +kernel
theorem dX3_isFigure_1 : decode cX3_isFigure 1 = .ok (.bipush 48, 2) := by decide +kernel
theorem dX3_isFigure_3 : decode cX3_isFigure 3 = .ok (.if_icmp .lt 13, 3) := by decide +kernel
theorem dX3_isFigure_6 : decode cX3_isFigure 6 = .ok (.iload_n 0, 1) := by decide +kernel
theorem dX3_isFigure_7 : decode cX3_isFigure 7 = .ok (.bipush 57, 2) := by decide +kernel
theorem dX3_isFigure_9 : decode cX3_isFigure 9 = .ok (.if_icmp .gt 7, 3) := by decide +kernel
theorem dX3_isFigure_12 : decode cX3_isFigure 12 = .ok (.iconst 1, 1) := by decide +kernel
theorem dX3_isFigure_13 : decode cX3_isFigure 13 = .ok (.goto 4, 3) := by decide +kernel
theorem dX3_isFigure_16 : decode cX3_isFigure 16 = .ok (.iconst 0, 1) := by decide +kernel
theorem dX3_isFigure_17 : decode cX3_isFigure 17 = .ok (.ireturn, 1) := by decide +kernel
theorem dX4_init_0 : decode cX4_init 0 = .ok (.aload_n 0, 1) := by decide +kernel
theorem dX4_init_1 : decode cX4_init 1 = .ok (.invokespecial 1, 3) := by decide +kernel
theorem dX4_init_4 : decode cX4_init 4 = .ok (.aload_n 0, 1) := by decide +kernel
theorem dX4_init_5 : decode cX4_init 5 = .ok (.bipush 6, 2) := by decide +kernel
theorem dX4_init_7 : decode cX4_init 7 = .ok (.newarray .int, 2) := by decide +kernel
theorem dX4_init_9 : decode cX4_init 9 = .ok (.putfield 7, 3) := by decide +kernel
theorem dX4_init_12 : decode cX4_init 12 = .ok (.aload_n 0, 1) := by decide +kernel
theorem dX4_init_13 : decode cX4_init 13 = .ok (.lconst 1, 1) := by decide +kernel
theorem dX4_init_14 : decode cX4_init 14 = .ok (.putfield 13, 3) := by decide +kernel
theorem dX4_init_17 : decode cX4_init 17 = .ok (.aload_n 0, 1) := by decide +kernel
theorem dX4_init_18 : decode cX4_init 18 = .ok (.bipush 6, 2) := by decide +kernel
theorem dX4_init_20 : decode cX4_init 20 = .ok (.newarray .int, 2) := by decide +kernel
theorem dX4_init_22 : decode cX4_init 22 = .ok (.putfield 17, 3) := by decide +kernel
theorem dX4_init_25 : decode cX4_init 25 = .ok (.aload_n 0, 1) := by decide +kernel
theorem dX4_init_26 : decode cX4_init 26 = .ok (.sipush 240, 3) := by decide +kernel
theorem dX4_init_29 : decode cX4_init 29 = .ok (.newarray .int, 2) := by decide +kernel
theorem dX4_init_31 : decode cX4_init 31 = .ok (.putfield 20, 3) := by decide +kernel
theorem dX4_init_34 : decode cX4_init 34 = .ok (.aload_n 0, 1) := by decide +kernel
theorem dX4_init_35 : decode cX4_init 35 = .ok (.iconst 4, 1) := by decide +kernel
theorem dX4_init_36 : decode cX4_init 36 = .ok (.newarray .int, 2) := by decide +kernel
theorem dX4_init_38 : decode cX4_init 38 = .ok (.putfield 23, 3) := by decide +kernel
theorem dX4_init_41 : decode cX4_init 41 = .ok (.aload_n 0, 1) := by decide +kernel
theorem dX4_init_42 : decode cX4_init 42 = .ok (.sipush 240, 3) := by decide +kernel
theorem dX4_init_45 : decode cX4_init 45 = .ok (.newarray .byte, 2) := by decide +kernel
theorem dX4_init_47 : decode cX4_init 47 = .ok (.putfield 26, 3) := by decide +kernel
theorem dX4_init_50 : decode cX4_init 50 = .ok (.aload_n 0, 1) := by decide +kernel
theorem dX4_init_51 : decode cX4_init 51 = .ok (.bipush 40, 2) := by decide +kernel
theorem dX4_init_53 : decode cX4_init 53 = .ok (.newarray .int, 2) := by decide +kernel
theorem dX4_init_55 : decode cX4_init 55 = .ok (.putfield 30, 3) := by decide +kernel
theorem dX4_init_58 : decode cX4_init 58 = .ok (.aload_n 0, 1) := by decide +kernel
theorem dX4_init_59 : decode cX4_init 59 = .ok (.bipush 14, 2) := by decide +kernel
theorem dX4_init_61 : decode cX4_init 61 = .ok (.newarray .int, 2) := by decide +kernel
theorem dX4_init_63 : decode cX4_init 63 = .ok (.putfield 33, 3) := by decide +kernel
theorem dX4_init_66 : decode cX4_init 66 = .ok (.aload_n 0, 1) := by decide +kernel
theorem dX4_init_67 : decode cX4_init 67 = .ok (.bipush 14, 2) := by decide +kernel
theorem dX4_init_69 : decode cX4_init 69 = .ok (.newarray .int, 2) := by decide +kernel
theorem dX4_init_71 : decode cX4_init 71 = .ok (.putfield 36, 3) := by decide +kernel
theorem dX4_init_74 : decode cX4_init 74 = .ok (.aload_n 0, 1) := by decide +kernel
theorem dX4_init_75 : decode cX4_init 75 = .ok (.bipush 14, 2) := by decide +kernel
theorem dX4_init_77 : decode cX4_init 77 = .ok (.newarray .int, 2) := by decide +kernel
theorem dX4_init_79 : decode cX4_init 79 = .ok (.putfield 39, 3) := by decide +kernel
theorem dX4_init_82 : decode cX4_init 82 = .ok (.aload_n 0, 1) := by decide +kernel
theorem dX4_init_83 : decode cX4_init 83 = .ok (.sipush 410, 3) := by decide +kernel
theorem dX4_init_86 : decode cX4_init 86 = .ok (.newarray .int, 2) := by decide +kernel
theorem dX4_init_88 : decode cX4_init 88 = .ok (.putfield 42, 3) := by decide +kernel
theorem dX4_init_91 : decode cX4_init 91 = .ok (.aload_n 0, 1) := by decide +kernel
theorem dX4_init_92 : decode cX4_init 92 = .ok (.sipush 1230, 3) := by decide +kernel
theorem dX4_init_95 : decode cX4_init 95 = .ok (.newarray .int, 2) := by decide +kernel
theorem dX4_init_97 : decode cX4_init 97 = .ok (.putfield 45, 3) := by decide +kernel
theorem dX4_init_100 : decode cX4_init 100 = .ok (.aload_n 0, 1) := by decide +kernel
theorem dX4_init_101 : decode cX4_init 101 = .ok (.iconst 3, 1) := by decide +kernel
theorem dX4_init_102 : decode cX4_init 102 = .ok (.newarray .int, 2) := by decide +kernel
theorem dX4_init_104 : decode cX4_init 104 = .ok (.putfield 48, 3) := by decide +kernel
theorem dX4_init_107 : decode cX4_init 107 = .ok (.aload_n 0, 1) := by decide +kernel
theorem dX4_init_108 : decode cX4_init 108 = .ok (.bipush 7, 2) := by decide +kernel
theorem dX4_init_110 : decode cX4_init 110 = .ok (.newarray .int, 2) := by decide +kernel
theorem dX4_init_112 : decode cX4_init 112 = .ok (.putfield 51, 3) := by decide +kernel
theorem dX4_init_115 : decode cX4_init 115 = .ok (.aload_n 0, 1) := by decide +kernel
theorem dX4_init_116 : decode cX4_init 116 = .ok (.sipush 896, 3) := by decide +kernel
theorem dX4_init_119 : decode cX4_init 119 = .ok (.newarray .int, 2) := by decide +kernel
theorem dX4_init_121 : decode cX4_init 121 = .ok (.putfield 54, 3) := by decide +kernel
theorem dX4_init_124 : decode cX4_init 124 = .ok (.aload_n 0, 1) := by decide +kernel
theorem dX4_init_125 : decode cX4_init 125 = .ok (.sipush 1024, 3) := by decide +kernel
theorem dX4_init_128 : decode cX4_init 128 = .ok (.newarray .int, 2) := by decide +kernel
theorem dX4_init_130 : decode cX4_init 130 = .ok (.putfield 57, 3) := by decide +kernel
theorem dX4_init_133 : decode cX4_init 133 = .ok (.aload_n 0, 1) := by decide +kernel
theorem dX4_init_134 : decode cX4_init 134 = .ok (.bipush 7, 2) := by decide +kernel
theorem dX4_init_136 : decode cX4_init 136 = .ok (.newarray .int, 2) := by decide +kernel
theorem dX4_init_138 : decode cX4_init 138 = .ok (.putfield 60, 3) := by decide +kernel
theorem dX4_init_141 : decode cX4_init 141 = .ok (.aload_n 0, 1) := by decide +kernel
theorem dX4_init_142 : decode cX4_init 142 = .ok (.sipush 1024, 3) := by decide +kernel
theorem dX4_init_145 : decode cX4_init 145 = .ok (.newarray .boolean, 2) := by decide +kernel
theorem dX4_init_147 : decode cX4_init 147 = .ok (.putfield 63, 3) := by decide +kernel
theorem dX4_init_150 : decode cX4_init 150 = .ok (.iconst 0, 1) := by decide +kernel
theorem dX4_init_151 : decode cX4_init 151 = .ok (.istore_n 1, 1) := by decide +kernel
theorem dX4_init_152 : decode cX4_init 152 = .ok (.iload_n 1, 1) := by decide +kernel
theorem dX4_init_153 : decode cX4_init 153 = .ok (.bipush 6, 2) := by decide +kernel
theorem dX4_init_155 : decode cX4_init 155 = .ok (.if_icmp .ge 16, 3) := by decide +kernel
theorem dX4_init_158 : decode cX4_init 158 = .ok (.aload_n 0, 1) := by decide +kernel
theorem dX4_init_159 : decode cX4_init 159 = .ok (.getfield 17, 3) := by decide +kernel
theorem dX4_init_162 : decode cX4_init 162 = .ok (.iload_n 1, 1) := by decide +kernel
theorem dX4_init_163 : decode cX4_init 163 = .ok (.iconst (-1), 1) := by decide +kernel
theorem dX4_init_164 : decode cX4_init 164 = .ok (.iastore, 1) := by decide +kernel
theorem dX4_init_165 : decode cX4_init 165 = .ok (.iinc 1 1, 3) := by decide +kernel
theorem dX4_init_168 : decode cX4_init 168 = .ok (.goto (-16), 3) := by decide +kernel
theorem dX4_init_171 : decode cX4_init 171 = .ok (.iconst 0, 1) := by decide +kernel
theorem dX4_init_172 : decode cX4_init 172 = .ok (.istore_n 1, 1) := by decide +kernel
theorem dX4_init_173 : decode cX4_init 173 = .ok (.iload_n 1, 1) := by decide +kernel
theorem dX4_init_174 : decode cX4_init 174 = .ok (.iconst 4, 1) := by decide +kernel
theorem dX4_init_175 : decode cX4_init 175 = .ok (.if_icmp .ge 16, 3) := by decide +kernel
theorem dX4_init_178 : decode cX4_init 178 = .ok (.aload_n 0, 1) := by decide +kernel
theorem dX4_init_179 : decode cX4_init 179 = .ok (.getfield 23, 3) := by decide +kernel
theorem dX4_init_182 : decode cX4_init 182 = .ok (.iload_n 1, 1) := by decide +kernel
theorem dX4_init_183 : decode cX4_init 183 = .ok (.iconst (-1), 1) := by decide +kernel
theorem dX4_init_184 : decode cX4_init 184 = .ok (.iastore, 1) := by decide +kernel
theorem dX4_init_185 : decode cX4_init 185 = .ok (.iinc 1 1, 3) := by decide +kernel
theorem dX4_init_188 : decode cX4_init 188 = .ok (.goto (-15), 3) := by decide +kernel
theorem dX4_init_191 : decode cX4_init 191 = .ok (.iconst 0, 1) := by decide +kernel
theorem dX4_init_192 : decode cX4_init 192 = .ok (.istore_n 1, 1) := by decide +kernel
theorem dX4_init_193 : decode cX4_init 193 = .ok (.iload_n 1, 1) := by decide +kernel
theorem dX4_init_194 : decode cX4_init 194 = .ok (.iconst 3, 1) := by decide +kernel
theorem dX4_init_195 : decode cX4_init 195 = .ok (.if_icmp .ge 16, 3) := by decide +kernel
theorem dX4_init_198 : decode cX4_init 198 = .ok (.aload_n 0, 1) := by decide +kernel
theorem dX4_init_199 : decode cX4_init 199 = .ok (.getfield 48, 3) := by decide +kernel
theorem dX4_init_202 : decode cX4_init 202 = .ok (.iload_n 1, 1) := by decide +kernel
theorem dX4_init_203 : decode cX4_init 203 = .ok (.iconst (-1), 1) := by decide +kernel
theorem dX4_init_204 : decode cX4_init 204 = .ok (.iastore, 1) := by decide +kernel
theorem dX4_init_205 : decode cX4_init 205 = .ok (.iinc 1 1, 3) := by decide +kernel
theorem dX4_init_208 : decode cX4_init 208 = .ok (.goto (-15), 3) := by decide +kernel
theorem dX4_init_211 : decode cX4_init 211 = .ok (.aload_n 0, 1) := by decide +kernel
theorem dX4_init_212 : decode cX4_init 212 = .ok (.getfield 42, 3) := by decide +kernel
theorem dX4_init_215 : decode cX4_init 215 = .ok (.bipush 8, 2) := by decide +kernel
theorem dX4_init_217 : decode cX4_init 217 = .ok (.bipush (-9), 2) := by decide +kernel
theorem dX4_init_219 : decode cX4_init 219 = .ok (.iastore, 1) := by decide +kernel
theorem dX4_init_220 : decode cX4_init 220 = .ok (.return_, 1) := by decide +kernel
theorem dX4_in_0 : decode cX4_in 0 = .ok (.iload_n 0, 1) := by decide +kernel
theorem dX4_in_1 : decode cX4_in 1 = .ok (.iload_n 1, 1) := by decide +kernel
theorem dX4_in_2 : decode cX4_in 2 = .ok (.if_icmp .lt 12, 3) := by decide +kernel
theorem dX4_in_5 : decode cX4_in 5 = .ok (.iload_n 0, 1) := by decide +kernel
theorem dX4_in_6 : decode cX4_in 6 = .ok (.iload_n 2, 1) := by decide +kernel
theorem dX4_in_7 : decode cX4_in 7 = .ok (.if_icmp .gt 7, 3) := by decide +kernel
theorem dX4_in_10 : decode cX4_in 10 = .ok (.iconst 1, 1) := by decide +kernel
theorem dX4_in_11 : decode cX4_in 11 = .ok (.goto 4, 3) := by decide +kernel
theorem dX4_in_14 : decode cX4_in 14 = .ok (.iconst 0, 1) := by decide +kernel
theorem dX4_in_15 : decode cX4_in 15 = .ok (.ireturn, 1) := by decide +kernel
theorem dX4_has_0 : decode cX4_has 0 = .ok (.iload_n 0, 1) := by decide +kernel
theorem dX4_has_1 : decode cX4_has 1 = .ok (.iload_n 1, 1) := by decide +kernel
theorem dX4_has_2 : decode cX4_has 2 = .ok (.ishr, 1) := by decide +kernel
theorem dX4_has_3 : decode cX4_has 3 = .ok (.iconst 1, 1) := by decide +kernel
theorem dX4_has_4 : decode cX4_has 4 = .ok (.iand, 1) := by decide +kernel
theorem dX4_has_5 : decode cX4_has 5 = .ok (.iconst 1, 1) := by decide +kernel
theorem dX4_has_6 : decode cX4_has 6 = .ok (.if_icmp .ne 7, 3) := by decide +kernel
theorem dX4_has_9 : decode cX4_has 9 = .ok (.iconst 1, 1) := by decide +kernel
theorem dX4_has_10 : decode cX4_has 10 = .ok (.goto 4, 3) := by decide +kernel
theorem dX4_has_13 : decode cX4_has 13 = .ok (.iconst 0, 1) := by decide +kernel
theorem dX4_has_14 : decode cX4_has 14 = .ok (.ireturn, 1) := by decide +kernel
theorem dX4_bitsOf_0 : decode cX4_bitsOf 0 = .ok (.iconst 0, 1) := by decide +kernel
theorem dX4_bitsOf_1 : decode cX4_bitsOf 1 = .ok (.istore_n 1, 1) := by decide +kernel
theorem dX4_bitsOf_2 : decode cX4_bitsOf 2 = .ok (.iconst 0, 1) := by decide +kernel
theorem dX4_bitsOf_3 : decode cX4_bitsOf 3 = .ok (.istore_n 2, 1) := by decide +kernel
theorem dX4_bitsOf_4 : decode cX4_bitsOf 4 = .ok (.iload_n 2, 1) := by decide +kernel
theorem dX4_bitsOf_5 : decode cX4_bitsOf 5 = .ok (.bipush 8, 2) := by decide +kernel
theorem dX4_bitsOf_7 : decode cX4_bitsOf 7 = .ok (.if_icmp .ge 17, 3) := by decide +kernel
theorem dX4_bitsOf_10 : decode cX4_bitsOf 10 = .ok (.iload_n 1, 1) := by decide +kernel
theorem dX4_bitsOf_11 : decode cX4_bitsOf 11 = .ok (.iload_n 0, 1) := by decide +kernel
theorem dX4_bitsOf_12 : decode cX4_bitsOf 12 = .ok (.iload_n 2, 1) := by decide +kernel
theorem dX4_bitsOf_13 : decode cX4_bitsOf 13 = .ok (.ishr, 1) := by decide +kernel
theorem dX4_bitsOf_14 : decode cX4_bitsOf 14 = .ok (.iconst 1, 1) := by decide +kernel
theorem dX4_bitsOf_15 : decode cX4_bitsOf 15 = .ok (.iand, 1) := by decide +kernel
theorem dX4_bitsOf_16 : decode cX4_bitsOf 16 = .ok (.iadd, 1) := by decide +kernel
theorem dX4_bitsOf_17 : decode cX4_bitsOf 17 = .ok (.istore_n 1, 1) := by decide +kernel
theorem dX4_bitsOf_18 : decode cX4_bitsOf 18 = .ok (.iinc 2 1, 3) := by decide +kernel
theorem dX4_bitsOf_21 : decode cX4_bitsOf 21 = .ok (.goto (-17), 3) := by decide +kernel
theorem dX4_bitsOf_24 : decode cX4_bitsOf 24 = .ok (.iload_n 1, 1) := by decide +kernel
theorem dX4_bitsOf_25 : decode cX4_bitsOf 25 = .ok (.ireturn, 1) := by decide +kernel
theorem dX4_find_0 : decode cX4_find 0 = .ok (.aload_n 0, 1) := by decide +kernel
theorem dX4_find_1 : decode cX4_find 1 = .ok (.iload_n 1, 1) := by decide +kernel
theorem dX4_find_2 : decode cX4_find 2 = .ok (.putfield 67, 3) := by decide +kernel
theorem dX4_find_5 : decode cX4_find 5 = .ok (.aload_n 0, 1) := by decide +kernel
theorem dX4_find_6 : decode cX4_find 6 = .ok (.getfield 7, 3) := by decide +kernel
theorem dX4_find_9 : decode cX4_find 9 = .ok (.iload_n 1, 1) := by decide +kernel
theorem dX4_find_10 : decode cX4_find 10 = .ok (.dup2, 1) := by decide +kernel
theorem dX4_find_11 : decode cX4_find 11 = .ok (.iaload, 1) := by decide +kernel
theorem dX4_find_12 : decode cX4_find 12 = .ok (.iconst 1, 1) := by decide +kernel
theorem dX4_find_13 : decode cX4_find 13 = .ok (.iadd, 1) := by decide +kernel
theorem dX4_find_14 : decode cX4_find 14 = .ok (.iastore, 1) := by decide +kernel
theorem dX4_find_15 : decode cX4_find 15 = .ok (.bipush (-3), 2) := by decide +kernel
theorem dX4_find_17 : decode cX4_find 17 = .ok (.ireturn, 1) := by decide +kernel
theorem dX4_told_0 : decode cX4_told 0 = .ok (.aload_n 0, 1) := by decide +kernel
theorem dX4_told_1 : decode cX4_told 1 = .ok (.iload_n 1, 1) := by decide +kernel
theorem dX4_told_2 : decode cX4_told 2 = .ok (.putfield 71, 3) := by decide +kernel
theorem dX4_told_5 : decode cX4_told 5 = .ok (.iconst 1, 1) := by decide +kernel
theorem dX4_told_6 : decode cX4_told 6 = .ok (.ireturn, 1) := by decide +kernel
theorem dX4_fraction_0 : decode cX4_fraction 0 = .ok (.lload_n 1, 1) := by decide +kernel
theorem dX4_fraction_1 : decode cX4_fraction 1 = .ok (.lstore 5, 2) := by decide +kernel
theorem dX4_fraction_3 : decode cX4_fraction 3 = .ok (.lload_n 3, 1) := by decide +kernel
theorem dX4_fraction_4 : decode cX4_fraction 4 = .ok (.lstore 7, 2) := by decide +kernel
theorem dX4_fraction_6 : decode cX4_fraction 6 = .ok (.lload 7, 2) := by decide +kernel
theorem dX4_fraction_8 : decode cX4_fraction 8 = .ok (.lconst 0, 1) := by decide +kernel
theorem dX4_fraction_9 : decode cX4_fraction 9 = .ok (.lcmp, 1) := by decide +kernel
theorem dX4_fraction_10 : decode cX4_fraction 10 = .ok (.ifCond .eq 21, 3) := by decide +kernel
theorem dX4_fraction_13 : decode cX4_fraction 13 = .ok (.lload 5, 2) := by decide +kernel
theorem dX4_fraction_15 : decode cX4_fraction 15 = .ok (.lload 7, 2) := by decide +kernel
theorem dX4_fraction_17 : decode cX4_fraction 17 = .ok (.lrem, 1) := by decide +kernel
theorem dX4_fraction_18 : decode cX4_fraction 18 = .ok (.lstore 9, 2) := by decide +kernel
theorem dX4_fraction_20 : decode cX4_fraction 20 = .ok (.lload 7, 2) := by decide +kernel
theorem dX4_fraction_22 : decode cX4_fraction 22 = .ok (.lstore 5, 2) := by decide +kernel
theorem dX4_fraction_24 : decode cX4_fraction 24 = .ok (.lload 9, 2) := by decide +kernel
theorem dX4_fraction_26 : decode cX4_fraction 26 = .ok (.lstore 7, 2) := by decide +kernel
theorem dX4_fraction_28 : decode cX4_fraction 28 = .ok (.goto (-22), 3) := by decide +kernel
theorem dX4_fraction_31 : decode cX4_fraction 31 = .ok (.aload_n 0, 1) := by decide +kernel
theorem dX4_fraction_32 : decode cX4_fraction 32 = .ok (.lload_n 1, 1) := by decide +kernel
theorem dX4_fraction_33 : decode cX4_fraction 33 = .ok (.lload 5, 2) := by decide +kernel
theorem dX4_fraction_35 : decode cX4_fraction 35 = .ok (.ldiv, 1) := by decide +kernel
theorem dX4_fraction_36 : decode cX4_fraction 36 = .ok (.putfield 74, 3) := by decide +kernel
theorem dX4_fraction_39 : decode cX4_fraction 39 = .ok (.aload_n 0, 1) := by decide +kernel
theorem dX4_fraction_40 : decode cX4_fraction 40 = .ok (.lload_n 3, 1) := by decide +kernel
theorem dX4_fraction_41 : decode cX4_fraction 41 = .ok (.lload 5, 2) := by decide +kernel
theorem dX4_fraction_43 : decode cX4_fraction 43 = .ok (.ldiv, 1) := by decide +kernel
theorem dX4_fraction_44 : decode cX4_fraction 44 = .ok (.putfield 13, 3) := by decide +kernel
theorem dX4_fraction_47 : decode cX4_fraction 47 = .ok (.iconst 1, 1) := by decide +kernel
theorem dX4_fraction_48 : decode cX4_fraction 48 = .ok (.ireturn, 1) := by decide +kernel
theorem dX4_isRow_0 : decode cX4_isRow 0 = .ok (.iload_n 0, 1) := by decide +kernel
theorem dX4_isRow_1 : decode cX4_isRow 1 = .ok (.iconst 0, 1) := by decide +kernel
theorem dX4_isRow_2 : decode cX4_isRow 2 = .ok (.iconst 5, 1) := by decide +kernel
theorem dX4_isRow_3 : decode cX4_isRow 3 = .ok (.invokestatic 77, 3) := by decide +kernel
theorem dX4_isRow_6 : decode cX4_isRow 6 = .ok (.ireturn, 1) := by decide +kernel
theorem dX4_isText_0 : decode cX4_isText 0 = .ok (.iload_n 0, 1) := by decide +kernel
theorem dX4_isText_1 : decode cX4_isText 1 = .ok (.iconst 0, 1) := by decide +kernel
theorem dX4_isText_2 : decode cX4_isText 2 = .ok (.iconst 3, 1) := by decide +kernel
theorem dX4_isText_3 : decode cX4_isText 3 = .ok (.invokestatic 77, 3) := by decide +kernel
theorem dX4_isText_6 : decode cX4_isText 6 = .ok (.ireturn, 1) := by decide +kernel
theorem dX4_row_0 : decode cX4_row 0 = .ok (.iload_n 1, 1) := by decide +kernel
theorem dX4_row_1 : decode cX4_row 1 = .ok (.invokestatic 81, 3) := by decide +kernel
theorem dX4_row_4 : decode cX4_row 4 = .ok (.ifCond .eq 9, 3) := by decide +kernel
theorem dX4_row_7 : decode cX4_row 7 = .ok (.iload_n 2, 1) := by decide +kernel
theorem dX4_row_8 : decode cX4_row 8 = .ok (.bipush 40, 2) := by decide +kernel
theorem dX4_row_10 : decode cX4_row 10 = .ok (.if_icmp .le 5, 3) := by decide +kernel
theorem dX4_row_13 : decode cX4_row 13 = .ok (.iconst (-1), 1) := by decide +kernel
theorem dX4_row_14 : decode cX4_row 14 = .ok (.ireturn, 1) := by decide +kernel
theorem dX4_row_15 : decode cX4_row 15 = .ok (.iload_n 2, 1) := by decide +kernel
theorem dX4_row_16 : decode cX4_row 16 = .ok (.ifCond .ge 9, 3) := by decide +kernel
theorem dX4_row_19 : decode cX4_row 19 = .ok (.aload_n 0, 1) := by decide +kernel
theorem dX4_row_20 : decode cX4_row 20 = .ok (.iconst 5, 1) := by decide +kernel
theorem dX4_row_21 : decode cX4_row 21 = .ok (.invokevirtual 85, 3) := by decide +kernel
theorem dX4_row_24 : decode cX4_row 24 = .ok (.ireturn, 1) := by decide +kernel
theorem dX4_row_25 : decode cX4_row 25 = .ok (.aload_n 0, 1) := by decide +kernel
theorem dX4_row_26 : decode cX4_row 26 = .ok (.getfield 17, 3) := by decide +kernel
theorem dX4_row_29 : decode cX4_row 29 = .ok (.iload_n 1, 1) := by decide +kernel
theorem dX4_row_30 : decode cX4_row 30 = .ok (.iload_n 2, 1) := by decide +kernel
theorem dX4_row_31 : decode cX4_row 31 = .ok (.iastore, 1) := by decide +kernel
theorem dX4_row_32 : decode cX4_row 32 = .ok (.iconst 0, 1) := by decide +kernel
theorem dX4_row_33 : decode cX4_row 33 = .ok (.istore_n 3, 1) := by decide +kernel
theorem dX4_row_34 : decode cX4_row 34 = .ok (.iload_n 3, 1) := by decide +kernel
theorem dX4_row_35 : decode cX4_row 35 = .ok (.bipush 40, 2) := by decide +kernel
theorem dX4_row_37 : decode cX4_row 37 = .ok (.if_icmp .ge 21, 3) := by decide +kernel
theorem dX4_row_40 : decode cX4_row 40 = .ok (.aload_n 0, 1) := by decide +kernel
theorem dX4_row_41 : decode cX4_row 41 = .ok (.getfield 20, 3) := by decide +kernel
theorem dX4_row_44 : decode cX4_row 44 = .ok (.bipush 40, 2) := by decide +kernel
theorem dX4_row_46 : decode cX4_row 46 = .ok (.iload_n 1, 1) := by decide +kernel
theorem dX4_row_47 : decode cX4_row 47 = .ok (.imul, 1) := by decide +kernel
theorem dX4_row_48 : decode cX4_row 48 = .ok (.iload_n 3, 1) := by decide +kernel
theorem dX4_row_49 : decode cX4_row 49 = .ok (.iadd, 1) := by decide +kernel
theorem dX4_row_50 : decode cX4_row 50 = .ok (.iconst 0, 1) := by decide +kernel
theorem dX4_row_51 : decode cX4_row 51 = .ok (.iastore, 1) := by decide +kernel
theorem dX4_row_52 : decode cX4_row 52 = .ok (.iinc 3 1, 3) := by decide +kernel
theorem dX4_row_55 : decode cX4_row 55 = .ok (.goto (-21), 3) := by decide +kernel
theorem dX4_row_58 : decode cX4_row 58 = .ok (.iload_n 2, 1) := by decide +kernel
theorem dX4_row_59 : decode cX4_row 59 = .ok (.ireturn, 1) := by decide +kernel
theorem dX4_lay_0 : decode cX4_lay 0 = .ok (.iload_n 1, 1) := by decide +kernel
theorem dX4_lay_1 : decode cX4_lay 1 = .ok (.invokestatic 81, 3) := by decide +kernel
theorem dX4_lay_4 : decode cX4_lay 4 = .ok (.ifCond .ne 5, 3) := by decide +kernel
theorem dX4_lay_7 : decode cX4_lay 7 = .ok (.iconst (-1), 1) := by decide +kernel
theorem dX4_lay_8 : decode cX4_lay 8 = .ok (.ireturn, 1) := by decide +kernel
theorem dX4_lay_9 : decode cX4_lay 9 = .ok (.aload_n 0, 1) := by decide +kernel
theorem dX4_lay_10 : decode cX4_lay 10 = .ok (.getfield 17, 3) := by decide +kernel
theorem dX4_lay_13 : decode cX4_lay 13 = .ok (.iload_n 1, 1) := by decide +kernel
theorem dX4_lay_14 : decode cX4_lay 14 = .ok (.iaload, 1) := by decide +kernel
theorem dX4_lay_15 : decode cX4_lay 15 = .ok (.ifCond .ge 9, 3) := by decide +kernel
theorem dX4_lay_18 : decode cX4_lay 18 = .ok (.aload_n 0, 1) := by decide +kernel
theorem dX4_lay_19 : decode cX4_lay 19 = .ok (.iconst 1, 1) := by decide +kernel
theorem dX4_lay_20 : decode cX4_lay 20 = .ok (.invokevirtual 85, 3) := by decide +kernel
theorem dX4_lay_23 : decode cX4_lay 23 = .ok (.ireturn, 1) := by decide +kernel
theorem dX4_lay_24 : decode cX4_lay 24 = .ok (.iload_n 2, 1) := by decide +kernel
theorem dX4_lay_25 : decode cX4_lay 25 = .ok (.iconst 0, 1) := by decide +kernel
theorem dX4_lay_26 : decode cX4_lay 26 = .ok (.aload_n 0, 1) := by decide +kernel
theorem dX4_lay_27 : decode cX4_lay 27 = .ok (.getfield 17, 3) := by decide +kernel
theorem dX4_lay_30 : decode cX4_lay 30 = .ok (.iload_n 1, 1) := by decide +kernel
theorem dX4_lay_31 : decode cX4_lay 31 = .ok (.iaload, 1) := by decide +kernel
theorem dX4_lay_32 : decode cX4_lay 32 = .ok (.iconst 1, 1) := by decide +kernel
theorem dX4_lay_33 : decode cX4_lay 33 = .ok (.isub, 1) := by decide +kernel
theorem dX4_lay_34 : decode cX4_lay 34 = .ok (.invokestatic 77, 3) := by decide +kernel
theorem dX4_lay_37 : decode cX4_lay 37 = .ok (.ifCond .ne 9, 3) := by decide +kernel
theorem dX4_lay_40 : decode cX4_lay 40 = .ok (.aload_n 0, 1) := by decide +kernel
theorem dX4_lay_41 : decode cX4_lay 41 = .ok (.iconst 2, 1) := by decide +kernel
theorem dX4_lay_42 : decode cX4_lay 42 = .ok (.invokevirtual 85, 3) := by decide +kernel
theorem dX4_lay_45 : decode cX4_lay 45 = .ok (.ireturn, 1) := by decide +kernel
theorem dX4_lay_46 : decode cX4_lay 46 = .ok (.aload_n 0, 1) := by decide +kernel
theorem dX4_lay_47 : decode cX4_lay 47 = .ok (.getfield 20, 3) := by decide +kernel
theorem dX4_lay_50 : decode cX4_lay 50 = .ok (.bipush 40, 2) := by decide +kernel
theorem dX4_lay_52 : decode cX4_lay 52 = .ok (.iload_n 1, 1) := by decide +kernel
theorem dX4_lay_53 : decode cX4_lay 53 = .ok (.imul, 1) := by decide +kernel
theorem dX4_lay_54 : decode cX4_lay 54 = .ok (.iload_n 2, 1) := by decide +kernel
theorem dX4_lay_55 : decode cX4_lay 55 = .ok (.iadd, 1) := by decide +kernel
theorem dX4_lay_56 : decode cX4_lay 56 = .ok (.iaload, 1) := by decide +kernel
theorem dX4_lay_57 : decode cX4_lay 57 = .ok (.istore 4, 2) := by decide +kernel
theorem dX4_lay_59 : decode cX4_lay 59 = .ok (.aload_n 0, 1) := by decide +kernel
theorem dX4_lay_60 : decode cX4_lay 60 = .ok (.getfield 20, 3) := by decide +kernel
theorem dX4_lay_63 : decode cX4_lay 63 = .ok (.bipush 40, 2) := by decide +kernel
theorem dX4_lay_65 : decode cX4_lay 65 = .ok (.iload_n 1, 1) := by decide +kernel
theorem dX4_lay_66 : decode cX4_lay 66 = .ok (.imul, 1) := by decide +kernel
theorem dX4_lay_67 : decode cX4_lay 67 = .ok (.iload_n 2, 1) := by decide +kernel
theorem dX4_lay_68 : decode cX4_lay 68 = .ok (.iadd, 1) := by decide +kernel
theorem dX4_lay_69 : decode cX4_lay 69 = .ok (.iload_n 3, 1) := by decide +kernel
theorem dX4_lay_70 : decode cX4_lay 70 = .ok (.iastore, 1) := by decide +kernel
theorem dX4_lay_71 : decode cX4_lay 71 = .ok (.aload_n 0, 1) := by decide +kernel
theorem dX4_lay_72 : decode cX4_lay 72 = .ok (.iload 4, 2) := by decide +kernel
theorem dX4_lay_74 : decode cX4_lay 74 = .ok (.invokevirtual 89, 3) := by decide +kernel
theorem dX4_lay_77 : decode cX4_lay 77 = .ok (.ireturn, 1) := by decide +kernel
theorem dX4_at_0 : decode cX4_at 0 = .ok (.iload_n 1, 1) := by decide +kernel
theorem dX4_at_1 : decode cX4_at 1 = .ok (.invokestatic 81, 3) := by decide +kernel
theorem dX4_at_4 : decode cX4_at 4 = .ok (.ifCond .ne 5, 3) := by decide +kernel
theorem dX4_at_7 : decode cX4_at 7 = .ok (.iconst (-1), 1) := by decide +kernel
theorem dX4_at_8 : decode cX4_at 8 = .ok (.ireturn, 1) := by decide +kernel
theorem dX4_at_9 : decode cX4_at 9 = .ok (.aload_n 0, 1) := by decide +kernel
theorem dX4_at_10 : decode cX4_at 10 = .ok (.getfield 17, 3) := by decide +kernel
theorem dX4_at_13 : decode cX4_at 13 = .ok (.iload_n 1, 1) := by decide +kernel
theorem dX4_at_14 : decode cX4_at 14 = .ok (.iaload, 1) := by decide +kernel
theorem dX4_at_15 : decode cX4_at 15 = .ok (.ifCond .ge 9, 3) := by decide +kernel
theorem dX4_at_18 : decode cX4_at 18 = .ok (.aload_n 0, 1) := by decide +kernel
theorem dX4_at_19 : decode cX4_at 19 = .ok (.iconst 1, 1) := by decide +kernel
theorem dX4_at_20 : decode cX4_at 20 = .ok (.invokevirtual 85, 3) := by decide +kernel
theorem dX4_at_23 : decode cX4_at 23 = .ok (.ireturn, 1) := by decide +kernel
theorem dX4_at_24 : decode cX4_at 24 = .ok (.iload_n 2, 1) := by decide +kernel
theorem dX4_at_25 : decode cX4_at 25 = .ok (.iconst 0, 1) := by decide +kernel
theorem dX4_at_26 : decode cX4_at 26 = .ok (.aload_n 0, 1) := by decide +kernel
theorem dX4_at_27 : decode cX4_at 27 = .ok (.getfield 17, 3) := by decide +kernel
theorem dX4_at_30 : decode cX4_at 30 = .ok (.iload_n 1, 1) := by decide +kernel
theorem dX4_at_31 : decode cX4_at 31 = .ok (.iaload, 1) := by decide +kernel
theorem dX4_at_32 : decode cX4_at 32 = .ok (.iconst 1, 1) := by decide +kernel
theorem dX4_at_33 : decode cX4_at 33 = .ok (.isub, 1) := by decide +kernel
theorem dX4_at_34 : decode cX4_at 34 = .ok (.invokestatic 77, 3) := by decide +kernel
theorem dX4_at_37 : decode cX4_at 37 = .ok (.ifCond .eq 21, 3) := by decide +kernel
theorem dX4_at_40 : decode cX4_at 40 = .ok (.aload_n 0, 1) := by decide +kernel
theorem dX4_at_41 : decode cX4_at 41 = .ok (.aload_n 0, 1) := by decide +kernel
theorem dX4_at_42 : decode cX4_at 42 = .ok (.getfield 20, 3) := by decide +kernel
theorem dX4_at_45 : decode cX4_at 45 = .ok (.bipush 40, 2) := by decide +kernel
theorem dX4_at_47 : decode cX4_at 47 = .ok (.iload_n 1, 1) := by decide +kernel
theorem dX4_at_48 : decode cX4_at 48 = .ok (.imul, 1) := by decide +kernel
theorem dX4_at_49 : decode cX4_at 49 = .ok (.iload_n 2, 1) := by decide +kernel
theorem dX4_at_50 : decode cX4_at 50 = .ok (.iadd, 1) := by decide +kernel
theorem dX4_at_51 : decode cX4_at 51 = .ok (.iaload, 1) := by decide +kernel
theorem dX4_at_52 : decode cX4_at 52 = .ok (.invokevirtual 89, 3) := by decide +kernel
theorem dX4_at_55 : decode cX4_at 55 = .ok (.goto 8, 3) := by decide +kernel
theorem dX4_at_58 : decode cX4_at 58 = .ok (.aload_n 0, 1) := by decide +kernel
theorem dX4_at_59 : decode cX4_at 59 = .ok (.iconst 2, 1) := by decide +kernel
theorem dX4_at_60 : decode cX4_at 60 = .ok (.invokevirtual 85, 3) := by decide +kernel
theorem dX4_at_63 : decode cX4_at 63 = .ok (.ireturn, 1) := by decide +kernel
theorem dX4_tear_0 : decode cX4_tear 0 = .ok (.iload_n 1, 1) := by decide +kernel
theorem dX4_tear_1 : decode cX4_tear 1 = .ok (.invokestatic 81, 3) := by decide +kernel
theorem dX4_tear_4 : decode cX4_tear 4 = .ok (.ifCond .ne 5, 3) := by decide +kernel
theorem dX4_tear_7 : decode cX4_tear 7 = .ok (.iconst (-1), 1) := by decide +kernel
theorem dX4_tear_8 : decode cX4_tear 8 = .ok (.ireturn, 1) := by decide +kernel
theorem dX4_tear_9 : decode cX4_tear 9 = .ok (.aload_n 0, 1) := by decide +kernel
theorem dX4_tear_10 : decode cX4_tear 10 = .ok (.getfield 17, 3) := by decide +kernel
theorem dX4_tear_13 : decode cX4_tear 13 = .ok (.iload_n 1, 1) := by decide +kernel
theorem dX4_tear_14 : decode cX4_tear 14 = .ok (.iaload, 1) := by decide +kernel
theorem dX4_tear_15 : decode cX4_tear 15 = .ok (.ifCond .ge 9, 3) := by decide +kernel
theorem dX4_tear_18 : decode cX4_tear 18 = .ok (.aload_n 0, 1) := by decide +kernel
theorem dX4_tear_19 : decode cX4_tear 19 = .ok (.iconst 1, 1) := by decide +kernel
theorem dX4_tear_20 : decode cX4_tear 20 = .ok (.invokevirtual 85, 3) := by decide +kernel
theorem dX4_tear_23 : decode cX4_tear 23 = .ok (.ireturn, 1) := by decide +kernel
theorem dX4_tear_24 : decode cX4_tear 24 = .ok (.aload_n 0, 1) := by decide +kernel
theorem dX4_tear_25 : decode cX4_tear 25 = .ok (.getfield 17, 3) := by decide +kernel
theorem dX4_tear_28 : decode cX4_tear 28 = .ok (.iload_n 1, 1) := by decide +kernel
theorem dX4_tear_29 : decode cX4_tear 29 = .ok (.iconst (-1), 1) := by decide +kernel
theorem dX4_tear_30 : decode cX4_tear 30 = .ok (.iastore, 1) := by decide +kernel
theorem dX4_tear_31 : decode cX4_tear 31 = .ok (.iconst 1, 1) := by decide +kernel
theorem dX4_tear_32 : decode cX4_tear 32 = .ok (.ireturn, 1) := by decide +kernel
theorem dX4_copy_0 : decode cX4_copy 0 = .ok (.iload_n 1, 1) := by decide +kernel
theorem dX4_copy_1 : decode cX4_copy 1 = .ok (.invokestatic 81, 3) := by decide +kernel
theorem dX4_copy_4 : decode cX4_copy 4 = .ok (.ifCond .eq 10, 3) := by decide +kernel
theorem dX4_copy_7 : decode cX4_copy 7 = .ok (.iload_n 3, 1) := by decide +kernel
theorem dX4_copy_8 : decode cX4_copy 8 = .ok (.invokestatic 81, 3) := by decide +kernel
theorem dX4_copy_11 : decode cX4_copy 11 = .ok (.ifCond .ne 5, 3) := by decide +kernel
theorem dX4_copy_14 : decode cX4_copy 14 = .ok (.iconst (-1), 1) := by decide +kernel
theorem dX4_copy_15 : decode cX4_copy 15 = .ok (.ireturn, 1) := by decide +kernel
theorem dX4_copy_16 : decode cX4_copy 16 = .ok (.iload 5, 2) := by decide +kernel
theorem dX4_copy_18 : decode cX4_copy 18 = .ok (.ifCond .ge 9, 3) := by decide +kernel
theorem dX4_copy_21 : decode cX4_copy 21 = .ok (.aload_n 0, 1) := by decide +kernel
theorem dX4_copy_22 : decode cX4_copy 22 = .ok (.iconst 5, 1) := by decide +kernel
theorem dX4_copy_23 : decode cX4_copy 23 = .ok (.invokevirtual 85, 3) := by decide +kernel
theorem dX4_copy_26 : decode cX4_copy 26 = .ok (.ireturn, 1) := by decide +kernel
theorem dX4_copy_27 : decode cX4_copy 27 = .ok (.aload_n 0, 1) := by decide +kernel
theorem dX4_copy_28 : decode cX4_copy 28 = .ok (.getfield 17, 3) := by decide +kernel
theorem dX4_copy_31 : decode cX4_copy 31 = .ok (.iload_n 1, 1) := by decide +kernel
theorem dX4_copy_32 : decode cX4_copy 32 = .ok (.iaload, 1) := by decide +kernel
theorem dX4_copy_33 : decode cX4_copy 33 = .ok (.ifCond .lt 12, 3) := by decide +kernel
theorem dX4_copy_36 : decode cX4_copy 36 = .ok (.aload_n 0, 1) := by decide +kernel
theorem dX4_copy_37 : decode cX4_copy 37 = .ok (.getfield 17, 3) := by decide +kernel
theorem dX4_copy_40 : decode cX4_copy 40 = .ok (.iload_n 3, 1) := by decide +kernel
theorem dX4_copy_41 : decode cX4_copy 41 = .ok (.iaload, 1) := by decide +kernel
theorem dX4_copy_42 : decode cX4_copy 42 = .ok (.ifCond .ge 9, 3) := by decide +kernel
theorem dX4_copy_45 : decode cX4_copy 45 = .ok (.aload_n 0, 1) := by decide +kernel
theorem dX4_copy_46 : decode cX4_copy 46 = .ok (.iconst 1, 1) := by decide +kernel
theorem dX4_copy_47 : decode cX4_copy 47 = .ok (.invokevirtual 85, 3) := by decide +kernel
theorem dX4_copy_50 : decode cX4_copy 50 = .ok (.ireturn, 1) := by decide +kernel
theorem dX4_copy_51 : decode cX4_copy 51 = .ok (.iload_n 2, 1) := by decide +kernel
theorem dX4_copy_52 : decode cX4_copy 52 = .ok (.ifCond .lt 35, 3) := by decide +kernel
theorem dX4_copy_55 : decode cX4_copy 55 = .ok (.iload_n 2, 1) := by decide +kernel
theorem dX4_copy_56 : decode cX4_copy 56 = .ok (.aload_n 0, 1) := by decide +kernel
theorem dX4_copy_57 : decode cX4_copy 57 = .ok (.getfield 17, 3) := by decide +kernel
theorem dX4_copy_60 : decode cX4_copy 60 = .ok (.iload_n 1, 1) := by decide +kernel
theorem dX4_copy_61 : decode cX4_copy 61 = .ok (.iaload, 1) := by decide +kernel
theorem dX4_copy_62 : decode cX4_copy 62 = .ok (.iload 5, 2) := by decide +kernel
theorem dX4_copy_64 : decode cX4_copy 64 = .ok (.isub, 1) := by decide +kernel
theorem dX4_copy_65 : decode cX4_copy 65 = .ok (.if_icmp .gt 22, 3) := by decide +kernel
theorem dX4_copy_68 : decode cX4_copy 68 = .ok (.iload 4, 2) := by decide +kernel
theorem dX4_copy_70 : decode cX4_copy 70 = .ok (.ifCond .lt 17, 3) := by decide +kernel
theorem dX4_copy_73 : decode cX4_copy 73 = .ok (.iload 4, 2) := by decide +kernel
theorem dX4_copy_75 : decode cX4_copy 75 = .ok (.aload_n 0, 1) := by decide +kernel
theorem dX4_copy_76 : decode cX4_copy 76 = .ok (.getfield 17, 3) := by decide +kernel
theorem dX4_copy_79 : decode cX4_copy 79 = .ok (.iload_n 3, 1) := by decide +kernel
theorem dX4_copy_80 : decode cX4_copy 80 = .ok (.iaload, 1) := by decide +kernel
theorem dX4_copy_81 : decode cX4_copy 81 = .ok (.iload 5, 2) := by decide +kernel
theorem dX4_copy_83 : decode cX4_copy 83 = .ok (.isub, 1) := by decide +kernel
theorem dX4_copy_84 : decode cX4_copy 84 = .ok (.if_icmp .le 9, 3) := by decide +kernel
theorem dX4_copy_87 : decode cX4_copy 87 = .ok (.aload_n 0, 1) := by decide +kernel
theorem dX4_copy_88 : decode cX4_copy 88 = .ok (.iconst 2, 1) := by decide +kernel
theorem dX4_copy_89 : decode cX4_copy 89 = .ok (.invokevirtual 85, 3) := by decide +kernel
theorem dX4_copy_92 : decode cX4_copy 92 = .ok (.ireturn, 1) := by decide +kernel
theorem dX4_copy_93 : decode cX4_copy 93 = .ok (.iconst 0, 1) := by decide +kernel
theorem dX4_copy_94 : decode cX4_copy 94 = .ok (.istore 6, 2) := by decide +kernel
theorem dX4_copy_96 : decode cX4_copy 96 = .ok (.iload 6, 2) := by decide +kernel
theorem dX4_copy_98 : decode cX4_copy 98 = .ok (.iload 5, 2) := by decide +kernel
theorem dX4_copy_100 : decode cX4_copy 100 = .ok (.if_icmp .ge 30, 3) := by decide +kernel
theorem dX4_copy_103 : decode cX4_copy 103 = .ok (.aload_n 0, 1) := by decide +kernel
theorem dX4_copy_104 : decode cX4_copy 104 = .ok (.getfield 30, 3) := by decide +kernel
theorem dX4_copy_107 : decode cX4_copy 107 = .ok (.iload 6, 2) := by decide +kernel
theorem dX4_copy_109 : decode cX4_copy 109 = .ok (.aload_n 0, 1) := by decide +kernel
theorem dX4_copy_110 : decode cX4_copy 110 = .ok (.getfield 20, 3) := by decide +kernel
theorem dX4_copy_113 : decode cX4_copy 113 = .ok (.bipush 40, 2) := by decide +kernel
theorem dX4_copy_115 : decode cX4_copy 115 = .ok (.iload_n 1, 1) := by decide +kernel
theorem dX4_copy_116 : decode cX4_copy 116 = .ok (.imul, 1) := by decide +kernel
theorem dX4_copy_117 : decode cX4_copy 117 = .ok (.iload_n 2, 1) := by decide +kernel
theorem dX4_copy_118 : decode cX4_copy 118 = .ok (.iadd, 1) := by decide +kernel
theorem dX4_copy_119 : decode cX4_copy 119 = .ok (.iload 6, 2) := by decide +kernel
theorem dX4_copy_121 : decode cX4_copy 121 = .ok (.iadd, 1) := by decide +kernel
theorem dX4_copy_122 : decode cX4_copy 122 = .ok (.iaload, 1) := by decide +kernel
theorem dX4_copy_123 : decode cX4_copy 123 = .ok (.iastore, 1) := by decide +kernel
theorem dX4_copy_124 : decode cX4_copy 124 = .ok (.iinc 6 1, 3) := by decide +kernel
theorem dX4_copy_127 : decode cX4_copy 127 = .ok (.goto (-31), 3) := by decide +kernel
theorem dX4_copy_130 : decode cX4_copy 130 = .ok (.iconst 0, 1) := by decide +kernel
theorem dX4_copy_131 : decode cX4_copy 131 = .ok (.istore 6, 2) := by decide +kernel
theorem dX4_copy_133 : decode cX4_copy 133 = .ok (.iload 6, 2) := by decide +kernel
theorem dX4_copy_135 : decode cX4_copy 135 = .ok (.iload 5, 2) := by decide +kernel
theorem dX4_copy_137 : decode cX4_copy 137 = .ok (.if_icmp .ge 31, 3) := by decide +kernel
theorem dX4_copy_140 : decode cX4_copy 140 = .ok (.aload_n 0, 1) := by decide +kernel
theorem dX4_copy_141 : decode cX4_copy 141 = .ok (.getfield 20, 3) := by decide +kernel
theorem dX4_copy_144 : decode cX4_copy 144 = .ok (.bipush 40, 2) := by decide +kernel
theorem dX4_copy_146 : decode cX4_copy 146 = .ok (.iload_n 3, 1) := by decide +kernel
theorem dX4_copy_147 : decode cX4_copy 147 = .ok (.imul, 1) := by decide +kernel
theorem dX4_copy_148 : decode cX4_copy 148 = .ok (.iload 4, 2) := by decide +kernel
theorem dX4_copy_150 : decode cX4_copy 150 = .ok (.iadd, 1) := by decide +kernel
theorem dX4_copy_151 : decode cX4_copy 151 = .ok (.iload 6, 2) := by decide +kernel
theorem dX4_copy_153 : decode cX4_copy 153 = .ok (.iadd, 1) := by decide +kernel
theorem dX4_copy_154 : decode cX4_copy 154 = .ok (.aload_n 0, 1) := by decide +kernel
theorem dX4_copy_155 : decode cX4_copy 155 = .ok (.getfield 30, 3) := by decide +kernel
theorem dX4_copy_158 : decode cX4_copy 158 = .ok (.iload 6, 2) := by decide +kernel
theorem dX4_copy_160 : decode cX4_copy 160 = .ok (.iaload, 1) := by decide +kernel
theorem dX4_copy_161 : decode cX4_copy 161 = .ok (.iastore, 1) := by decide +kernel
theorem dX4_copy_162 : decode cX4_copy 162 = .ok (.iinc 6 1, 3) := by decide +kernel
theorem dX4_copy_165 : decode cX4_copy 165 = .ok (.goto (-32), 3) := by decide +kernel
theorem dX4_copy_168 : decode cX4_copy 168 = .ok (.iconst 1, 1) := by decide +kernel
theorem dX4_copy_169 : decode cX4_copy 169 = .ok (.ireturn, 1) := by decide +kernel
theorem dX4_mean_0 : decode cX4_mean 0 = .ok (.iload_n 1, 1) := by decide +kernel
theorem dX4_mean_1 : decode cX4_mean 1 = .ok (.invokestatic 81, 3) := by decide +kernel
theorem dX4_mean_4 : decode cX4_mean 4 = .ok (.ifCond .ne 5, 3) := by decide +kernel
theorem dX4_mean_7 : decode cX4_mean 7 = .ok (.iconst (-1), 1) := by decide +kernel
theorem dX4_mean_8 : decode cX4_mean 8 = .ok (.ireturn, 1) := by decide +kernel
theorem dX4_mean_9 : decode cX4_mean 9 = .ok (.aload_n 0, 1) := by decide +kernel
theorem dX4_mean_10 : decode cX4_mean 10 = .ok (.getfield 17, 3) := by decide +kernel
theorem dX4_mean_13 : decode cX4_mean 13 = .ok (.iload_n 1, 1) := by decide +kernel
theorem dX4_mean_14 : decode cX4_mean 14 = .ok (.iaload, 1) := by decide +kernel
theorem dX4_mean_15 : decode cX4_mean 15 = .ok (.ifCond .ge 9, 3) := by decide +kernel
theorem dX4_mean_18 : decode cX4_mean 18 = .ok (.aload_n 0, 1) := by decide +kernel
theorem dX4_mean_19 : decode cX4_mean 19 = .ok (.iconst 1, 1) := by decide +kernel
theorem dX4_mean_20 : decode cX4_mean 20 = .ok (.invokevirtual 85, 3) := by decide +kernel
theorem dX4_mean_23 : decode cX4_mean 23 = .ok (.ireturn, 1) := by decide +kernel
theorem dX4_mean_24 : decode cX4_mean 24 = .ok (.aload_n 0, 1) := by decide +kernel
theorem dX4_mean_25 : decode cX4_mean 25 = .ok (.getfield 17, 3) := by decide +kernel
theorem dX4_mean_28 : decode cX4_mean 28 = .ok (.iload_n 1, 1) := by decide +kernel
theorem dX4_mean_29 : decode cX4_mean 29 = .ok (.iaload, 1) := by decide +kernel
theorem dX4_mean_30 : decode cX4_mean 30 = .ok (.ifCond .ne 9, 3) := by decide +kernel
theorem dX4_mean_33 : decode cX4_mean 33 = .ok (.aload_n 0, 1) := by decide +kernel
theorem dX4_mean_34 : decode cX4_mean 34 = .ok (.iconst 4, 1) := by decide +kernel
theorem dX4_mean_35 : decode cX4_mean 35 = .ok (.invokevirtual 85, 3) := by decide +kernel
theorem dX4_mean_38 : decode cX4_mean 38 = .ok (.ireturn, 1) := by decide +kernel
theorem dX4_mean_39 : decode cX4_mean 39 = .ok (.lconst 0, 1) := by decide +kernel
theorem dX4_mean_40 : decode cX4_mean 40 = .ok (.lstore_n 2, 1) := by decide +kernel
theorem dX4_mean_41 : decode cX4_mean 41 = .ok (.iconst 0, 1) := by decide +kernel
theorem dX4_mean_42 : decode cX4_mean 42 = .ok (.istore 4, 2) := by decide +kernel
theorem dX4_mean_44 : decode cX4_mean 44 = .ok (.iload 4, 2) := by decide +kernel
theorem dX4_mean_46 : decode cX4_mean 46 = .ok (.aload_n 0, 1) := by decide +kernel
theorem dX4_mean_47 : decode cX4_mean 47 = .ok (.getfield 17, 3) := by decide +kernel
theorem dX4_mean_50 : decode cX4_mean 50 = .ok (.iload_n 1, 1) := by decide +kernel
theorem dX4_mean_51 : decode cX4_mean 51 = .ok (.iaload, 1) := by decide +kernel
theorem dX4_mean_52 : decode cX4_mean 52 = .ok (.if_icmp .ge 25, 3) := by decide +kernel
theorem dX4_mean_55 : decode cX4_mean 55 = .ok (.lload_n 2, 1) := by decide +kernel
theorem dX4_mean_56 : decode cX4_mean 56 = .ok (.aload_n 0, 1) := by decide +kernel
theorem dX4_mean_57 : decode cX4_mean 57 = .ok (.getfield 20, 3) := by decide +kernel
theorem dX4_mean_60 : decode cX4_mean 60 = .ok (.bipush 40, 2) := by decide +kernel
theorem dX4_mean_62 : decode cX4_mean 62 = .ok (.iload_n 1, 1) := by decide +kernel
theorem dX4_mean_63 : decode cX4_mean 63 = .ok (.imul, 1) := by decide +kernel
theorem dX4_mean_64 : decode cX4_mean 64 = .ok (.iload 4, 2) := by decide +kernel
theorem dX4_mean_66 : decode cX4_mean 66 = .ok (.iadd, 1) := by decide +kernel
theorem dX4_mean_67 : decode cX4_mean 67 = .ok (.iaload, 1) := by decide +kernel
theorem dX4_mean_68 : decode cX4_mean 68 = .ok (.i2l, 1) := by decide +kernel
theorem dX4_mean_69 : decode cX4_mean 69 = .ok (.ladd, 1) := by decide +kernel
theorem dX4_mean_70 : decode cX4_mean 70 = .ok (.lstore_n 2, 1) := by decide +kernel
theorem dX4_mean_71 : decode cX4_mean 71 = .ok (.iinc 4 1, 3) := by decide +kernel
theorem dX4_mean_74 : decode cX4_mean 74 = .ok (.goto (-30), 3) := by decide +kernel
theorem dX4_mean_77 : decode cX4_mean 77 = .ok (.aload_n 0, 1) := by decide +kernel
theorem dX4_mean_78 : decode cX4_mean 78 = .ok (.lload_n 2, 1) := by decide +kernel
theorem dX4_mean_79 : decode cX4_mean 79 = .ok (.aload_n 0, 1) := by decide +kernel
theorem dX4_mean_80 : decode cX4_mean 80 = .ok (.getfield 17, 3) := by decide +kernel
theorem dX4_mean_83 : decode cX4_mean 83 = .ok (.iload_n 1, 1) := by decide +kernel
theorem dX4_mean_84 : decode cX4_mean 84 = .ok (.iaload, 1) := by decide +kernel
theorem dX4_mean_85 : decode cX4_mean 85 = .ok (.i2l, 1) := by decide +kernel
theorem dX4_mean_86 : decode cX4_mean 86 = .ok (.ldiv, 1) := by decide +kernel
theorem dX4_mean_87 : decode cX4_mean 87 = .ok (.l2i, 1) := by decide +kernel
theorem dX4_mean_88 : decode cX4_mean 88 = .ok (.invokevirtual 89, 3) := by decide +kernel
theorem dX4_mean_91 : decode cX4_mean 91 = .ok (.ireturn, 1) := by decide +kernel
theorem dX4_text_0 : decode cX4_text 0 = .ok (.iload_n 1, 1) := by decide +kernel
theorem dX4_text_1 : decode cX4_text 1 = .ok (.invokestatic 92, 3) := by decide +kernel
theorem dX4_text_4 : decode cX4_text 4 = .ok (.ifCond .eq 9, 3) := by decide +kernel
theorem dX4_text_7 : decode cX4_text 7 = .ok (.iload_n 2, 1) := by decide +kernel
theorem dX4_text_8 : decode cX4_text 8 = .ok (.bipush 60, 2) := by decide +kernel
theorem dX4_text_10 : decode cX4_text 10 = .ok (.if_icmp .le 5, 3) := by decide +kernel
theorem dX4_text_13 : decode cX4_text 13 = .ok (.iconst (-1), 1) := by decide +kernel
theorem dX4_text_14 : decode cX4_text 14 = .ok (.ireturn, 1) := by decide +kernel
theorem dX4_text_15 : decode cX4_text 15 = .ok (.iload_n 2, 1) := by decide +kernel
theorem dX4_text_16 : decode cX4_text 16 = .ok (.ifCond .ge 9, 3) := by decide +kernel
theorem dX4_text_19 : decode cX4_text 19 = .ok (.aload_n 0, 1) := by decide +kernel
theorem dX4_text_20 : decode cX4_text 20 = .ok (.iconst 5, 1) := by decide +kernel
theorem dX4_text_21 : decode cX4_text 21 = .ok (.invokevirtual 85, 3) := by decide +kernel
theorem dX4_text_24 : decode cX4_text 24 = .ok (.ireturn, 1) := by decide +kernel
theorem dX4_text_25 : decode cX4_text 25 = .ok (.aload_n 0, 1) := by decide +kernel
theorem dX4_text_26 : decode cX4_text 26 = .ok (.getfield 23, 3) := by decide +kernel
theorem dX4_text_29 : decode cX4_text 29 = .ok (.iload_n 1, 1) := by decide +kernel
theorem dX4_text_30 : decode cX4_text 30 = .ok (.iload_n 2, 1) := by decide +kernel
theorem dX4_text_31 : decode cX4_text 31 = .ok (.iastore, 1) := by decide +kernel
theorem dX4_text_32 : decode cX4_text 32 = .ok (.iconst 0, 1) := by decide +kernel
theorem dX4_text_33 : decode cX4_text 33 = .ok (.istore_n 3, 1) := by decide +kernel
theorem dX4_text_34 : decode cX4_text 34 = .ok (.iload_n 3, 1) := by decide +kernel
theorem dX4_text_35 : decode cX4_text 35 = .ok (.bipush 60, 2) := by decide +kernel
theorem dX4_text_37 : decode cX4_text 37 = .ok (.if_icmp .ge 22, 3) := by decide +kernel
theorem dX4_text_40 : decode cX4_text 40 = .ok (.aload_n 0, 1) := by decide +kernel
theorem dX4_text_41 : decode cX4_text 41 = .ok (.getfield 26, 3) := by decide +kernel
theorem dX4_text_44 : decode cX4_text 44 = .ok (.bipush 60, 2) := by decide +kernel
theorem dX4_text_46 : decode cX4_text 46 = .ok (.iload_n 1, 1) := by decide +kernel
theorem dX4_text_47 : decode cX4_text 47 = .ok (.imul, 1) := by decide +kernel
theorem dX4_text_48 : decode cX4_text 48 = .ok (.iload_n 3, 1) := by decide +kernel
theorem dX4_text_49 : decode cX4_text 49 = .ok (.iadd, 1) := by decide +kernel
theorem dX4_text_50 : decode cX4_text 50 = .ok (.bipush 32, 2) := by decide +kernel
theorem dX4_text_52 : decode cX4_text 52 = .ok (.bastore, 1) := by decide +kernel
theorem dX4_text_53 : decode cX4_text 53 = .ok (.iinc 3 1, 3) := by decide +kernel
theorem dX4_text_56 : decode cX4_text 56 = .ok (.goto (-22), 3) := by decide +kernel
theorem dX4_text_59 : decode cX4_text 59 = .ok (.iload_n 2, 1) := by decide +kernel
theorem dX4_text_60 : decode cX4_text 60 = .ok (.ireturn, 1) := by decide +kernel
theorem dX4_put_0 : decode cX4_put 0 = .ok (.iload_n 1, 1) := by decide +kernel
theorem dX4_put_1 : decode cX4_put 1 = .ok (.invokestatic 92, 3) := by decide +kernel
theorem dX4_put_4 : decode cX4_put 4 = .ok (.ifCond .ne 5, 3) := by decide +kernel
theorem dX4_put_7 : decode cX4_put 7 = .ok (.iconst (-1), 1) := by decide +kernel
theorem dX4_put_8 : decode cX4_put 8 = .ok (.ireturn, 1) := by decide +kernel
theorem dX4_put_9 : decode cX4_put 9 = .ok (.aload_n 0, 1) := by decide +kernel
theorem dX4_put_10 : decode cX4_put 10 = .ok (.getfield 23, 3) := by decide +kernel
theorem dX4_put_13 : decode cX4_put 13 = .ok (.iload_n 1, 1) := by decide +kernel
theorem dX4_put_14 : decode cX4_put 14 = .ok (.iaload, 1) := by decide +kernel
theorem dX4_put_15 : decode cX4_put 15 = .ok (.ifCond .ge 9, 3) := by decide +kernel
theorem dX4_put_18 : decode cX4_put 18 = .ok (.aload_n 0, 1) := by decide +kernel
theorem dX4_put_19 : decode cX4_put 19 = .ok (.iconst 1, 1) := by decide +kernel
theorem dX4_put_20 : decode cX4_put 20 = .ok (.invokevirtual 85, 3) := by decide +kernel
theorem dX4_put_23 : decode cX4_put 23 = .ok (.ireturn, 1) := by decide +kernel
theorem dX4_put_24 : decode cX4_put 24 = .ok (.iload_n 2, 1) := by decide +kernel
theorem dX4_put_25 : decode cX4_put 25 = .ok (.iconst 0, 1) := by decide +kernel
theorem dX4_put_26 : decode cX4_put 26 = .ok (.aload_n 0, 1) := by decide +kernel
theorem dX4_put_27 : decode cX4_put 27 = .ok (.getfield 23, 3) := by decide +kernel
theorem dX4_put_30 : decode cX4_put 30 = .ok (.iload_n 1, 1) := by decide +kernel
theorem dX4_put_31 : decode cX4_put 31 = .ok (.iaload, 1) := by decide +kernel
theorem dX4_put_32 : decode cX4_put 32 = .ok (.iconst 1, 1) := by decide +kernel
theorem dX4_put_33 : decode cX4_put 33 = .ok (.isub, 1) := by decide +kernel
theorem dX4_put_34 : decode cX4_put 34 = .ok (.invokestatic 77, 3) := by decide +kernel
theorem dX4_put_37 : decode cX4_put 37 = .ok (.ifCond .ne 9, 3) := by decide +kernel
theorem dX4_put_40 : decode cX4_put 40 = .ok (.aload_n 0, 1) := by decide +kernel
theorem dX4_put_41 : decode cX4_put 41 = .ok (.iconst 2, 1) := by decide +kernel
theorem dX4_put_42 : decode cX4_put 42 = .ok (.invokevirtual 85, 3) := by decide +kernel
theorem dX4_put_45 : decode cX4_put 45 = .ok (.ireturn, 1) := by decide +kernel
theorem dX4_put_46 : decode cX4_put 46 = .ok (.aload_n 0, 1) := by decide +kernel
theorem dX4_put_47 : decode cX4_put 47 = .ok (.getfield 26, 3) := by decide +kernel
theorem dX4_put_50 : decode cX4_put 50 = .ok (.bipush 60, 2) := by decide +kernel
theorem dX4_put_52 : decode cX4_put 52 = .ok (.iload_n 1, 1) := by decide +kernel
theorem dX4_put_53 : decode cX4_put 53 = .ok (.imul, 1) := by decide +kernel
theorem dX4_put_54 : decode cX4_put 54 = .ok (.iload_n 2, 1) := by decide +kernel
theorem dX4_put_55 : decode cX4_put 55 = .ok (.iadd, 1) := by decide +kernel
theorem dX4_put_56 : decode cX4_put 56 = .ok (.baload, 1) := by decide +kernel
theorem dX4_put_57 : decode cX4_put 57 = .ok (.istore 4, 2) := by decide +kernel
theorem dX4_put_59 : decode cX4_put 59 = .ok (.aload_n 0, 1) := by decide +kernel
theorem dX4_put_60 : decode cX4_put 60 = .ok (.getfield 26, 3) := by decide +kernel
theorem dX4_put_63 : decode cX4_put 63 = .ok (.bipush 60, 2) := by decide +kernel
theorem dX4_put_65 : decode cX4_put 65 = .ok (.iload_n 1, 1) := by decide +kernel
theorem dX4_put_66 : decode cX4_put 66 = .ok (.imul, 1) := by decide +kernel
theorem dX4_put_67 : decode cX4_put 67 = .ok (.iload_n 2, 1) := by decide +kernel
theorem dX4_put_68 : decode cX4_put 68 = .ok (.iadd, 1) := by decide +kernel
theorem dX4_put_69 : decode cX4_put 69 = .ok (.iload_n 3, 1) := by decide +kernel
theorem dX4_put_70 : decode cX4_put 70 = .ok (.i2b, 1) := by decide +kernel
theorem dX4_put_71 : decode cX4_put 71 = .ok (.bastore, 1) := by decide +kernel
theorem dX4_put_72 : decode cX4_put 72 = .ok (.iload 4, 2) := by decide +kernel
theorem dX4_put_74 : decode cX4_put 74 = .ok (.sipush 1000, 3) := by decide +kernel
theorem dX4_put_77 : decode cX4_put 77 = .ok (.iadd, 1) := by decide +kernel
theorem dX4_put_78 : decode cX4_put 78 = .ok (.ireturn, 1) := by decide +kernel
theorem dX4_kindOf_0 : decode cX4_kindOf 0 = .ok (.iload_n 0, 1) := by decide +kernel
theorem dX4_kindOf_1 : decode cX4_kindOf 1 = .ok (.bipush 103, 2) := by decide +kernel
theorem dX4_kindOf_3 : decode cX4_kindOf 3 = .ok (.if_icmp .ne 7, 3) := by decide +kernel
theorem dX4_kindOf_6 : decode cX4_kindOf 6 = .ok (.iconst 0, 1) := by decide +kernel
theorem dX4_kindOf_7 : decode cX4_kindOf 7 = .ok (.goto 55, 3) := by decide +kernel
theorem dX4_kindOf_10 : decode cX4_kindOf 10 = .ok (.iload_n 0, 1) := by decide +kernel
theorem dX4_kindOf_11 : decode cX4_kindOf 11 = .ok (.bipush 107, 2) := by decide +kernel
theorem dX4_kindOf_13 : decode cX4_kindOf 13 = .ok (.if_icmp .ne 7, 3) := by decide +kernel
theorem dX4_kindOf_16 : decode cX4_kindOf 16 = .ok (.iconst 1, 1) := by decide +kernel
theorem dX4_kindOf_17 : decode cX4_kindOf 17 = .ok (.goto 45, 3) := by decide +kernel
theorem dX4_kindOf_20 : decode cX4_kindOf 20 = .ok (.iload_n 0, 1) := by decide +kernel
theorem dX4_kindOf_21 : decode cX4_kindOf 21 = .ok (.bipush 115, 2) := by decide +kernel
theorem dX4_kindOf_23 : decode cX4_kindOf 23 = .ok (.if_icmp .ne 7, 3) := by decide +kernel
theorem dX4_kindOf_26 : decode cX4_kindOf 26 = .ok (.iconst 2, 1) := by decide +kernel
theorem dX4_kindOf_27 : decode cX4_kindOf 27 = .ok (.goto 35, 3) := by decide +kernel
theorem dX4_kindOf_30 : decode cX4_kindOf 30 = .ok (.iload_n 0, 1) := by decide +kernel
theorem dX4_kindOf_31 : decode cX4_kindOf 31 = .ok (.bipush 109, 2) := by decide +kernel
theorem dX4_kindOf_33 : decode cX4_kindOf 33 = .ok (.if_icmp .ne 7, 3) := by decide +kernel
theorem dX4_kindOf_36 : decode cX4_kindOf 36 = .ok (.iconst 3, 1) := by decide +kernel
theorem dX4_kindOf_37 : decode cX4_kindOf 37 = .ok (.goto 25, 3) := by decide +kernel
theorem dX4_kindOf_40 : decode cX4_kindOf 40 = .ok (.iload_n 0, 1) := by decide +kernel
theorem dX4_kindOf_41 : decode cX4_kindOf 41 = .ok (.bipush 105, 2) := by decide +kernel
theorem dX4_kindOf_43 : decode cX4_kindOf 43 = .ok (.if_icmp .ne 7, 3) := by decide +kernel
theorem dX4_kindOf_46 : decode cX4_kindOf 46 = .ok (.iconst 4, 1) := by decide +kernel
theorem dX4_kindOf_47 : decode cX4_kindOf 47 = .ok (.goto 15, 3) := by decide +kernel
theorem dX4_kindOf_50 : decode cX4_kindOf 50 = .ok (.iload_n 0, 1) := by decide +kernel
theorem dX4_kindOf_51 : decode cX4_kindOf 51 = .ok (.bipush 102, 2) := by decide +kernel
theorem dX4_kindOf_53 : decode cX4_kindOf 53 = .ok (.if_icmp .ne 7, 3) := by decide +kernel
theorem dX4_kindOf_56 : decode cX4_kindOf 56 = .ok (.iconst 5, 1) := by decide +kernel
theorem dX4_kindOf_57 : decode cX4_kindOf 57 = .ok (.goto 5, 3) := by decide +kernel
theorem dX4_kindOf_60 : decode cX4_kindOf 60 = .ok (.bipush (-9), 2) := by decide +kernel
theorem dX4_kindOf_62 : decode cX4_kindOf 62 = .ok (.ireturn, 1) := by decide +kernel
theorem dX4_read_0 : decode cX4_read 0 = .ok (.aload_n 0, 1) := by decide +kernel
theorem dX4_read_1 : decode cX4_read 1 = .ok (.iconst 0, 1) := by decide +kernel
theorem dX4_read_2 : decode cX4_read 2 = .ok (.putfield 95, 3) := by decide +kernel
theorem dX4_read_5 : decode cX4_read 5 = .ok (.iconst 0, 1) := by decide +kernel
theorem dX4_read_6 : decode cX4_read 6 = .ok (.istore_n 2, 1) := by decide +kernel
theorem dX4_read_7 : decode cX4_read 7 = .ok (.iload_n 2, 1) := by decide +kernel
theorem dX4_read_8 : decode cX4_read 8 = .ok (.aload_n 0, 1) := by decide +kernel
theorem dX4_read_9 : decode cX4_read 9 = .ok (.getfield 23, 3) := by decide +kernel
theorem dX4_read_12 : decode cX4_read 12 = .ok (.iload_n 1, 1) := by decide +kernel
theorem dX4_read_13 : decode cX4_read 13 = .ok (.iaload, 1) := by decide +kernel
theorem dX4_read_14 : decode cX4_read 14 = .ok (.if_icmp .ge 25, 3) := by decide +kernel
theorem dX4_read_17 : decode cX4_read 17 = .ok (.aload_n 0, 1) := by decide +kernel
theorem dX4_read_18 : decode cX4_read 18 = .ok (.getfield 26, 3) := by decide +kernel
theorem dX4_read_21 : decode cX4_read 21 = .ok (.bipush 60, 2) := by decide +kernel
theorem dX4_read_23 : decode cX4_read 23 = .ok (.iload_n 1, 1) := by decide +kernel
theorem dX4_read_24 : decode cX4_read 24 = .ok (.imul, 1) := by decide +kernel
theorem dX4_read_25 : decode cX4_read 25 = .ok (.iload_n 2, 1) := by decide +kernel
theorem dX4_read_26 : decode cX4_read 26 = .ok (.iadd, 1) := by decide +kernel
theorem dX4_read_27 : decode cX4_read 27 = .ok (.baload, 1) := by decide +kernel
theorem dX4_read_28 : decode cX4_read 28 = .ok (.bipush 32, 2) := by decide +kernel
theorem dX4_read_30 : decode cX4_read 30 = .ok (.if_icmp .ne 9, 3) := by decide +kernel
theorem dX4_read_33 : decode cX4_read 33 = .ok (.iinc 2 1, 3) := by decide +kernel
theorem dX4_read_36 : decode cX4_read 36 = .ok (.goto (-29), 3) := by decide +kernel
theorem dX4_read_39 : decode cX4_read 39 = .ok (.iload_n 2, 1) := by decide +kernel
theorem dX4_read_40 : decode cX4_read 40 = .ok (.aload_n 0, 1) := by decide +kernel
theorem dX4_read_41 : decode cX4_read 41 = .ok (.getfield 23, 3) := by decide +kernel
theorem dX4_read_44 : decode cX4_read 44 = .ok (.iload_n 1, 1) := by decide +kernel
theorem dX4_read_45 : decode cX4_read 45 = .ok (.iaload, 1) := by decide +kernel
theorem dX4_read_46 : decode cX4_read 46 = .ok (.if_icmp .ne 18, 3) := by decide +kernel
theorem dX4_read_49 : decode cX4_read 49 = .ok (.aload_n 0, 1) := by decide +kernel
theorem dX4_read_50 : decode cX4_read 50 = .ok (.getfield 95, 3) := by decide +kernel
theorem dX4_read_53 : decode cX4_read 53 = .ok (.iconst 2, 1) := by decide +kernel
theorem dX4_read_54 : decode cX4_read 54 = .ok (.if_icmp .ge 7, 3) := by decide +kernel
theorem dX4_read_57 : decode cX4_read 57 = .ok (.iload_n 2, 1) := by decide +kernel
theorem dX4_read_58 : decode cX4_read 58 = .ok (.goto 5, 3) := by decide +kernel
theorem dX4_read_61 : decode cX4_read 61 = .ok (.bipush (-9), 2) := by decide +kernel
theorem dX4_read_63 : decode cX4_read 63 = .ok (.ireturn, 1) := by decide +kernel
theorem dX4_read_64 : decode cX4_read 64 = .ok (.aload_n 0, 1) := by decide +kernel
theorem dX4_read_65 : decode cX4_read 65 = .ok (.getfield 26, 3) := by decide +kernel
theorem dX4_read_68 : decode cX4_read 68 = .ok (.bipush 60, 2) := by decide +kernel
theorem dX4_read_70 : decode cX4_read 70 = .ok (.iload_n 1, 1) := by decide +kernel
theorem dX4_read_71 : decode cX4_read 71 = .ok (.imul, 1) := by decide +kernel
theorem dX4_read_72 : decode cX4_read 72 = .ok (.iload_n 2, 1) := by decide +kernel
theorem dX4_read_73 : decode cX4_read 73 = .ok (.iadd, 1) := by decide +kernel
theorem dX4_read_74 : decode cX4_read 74 = .ok (.baload, 1) := by decide +kernel
theorem dX4_read_75 : decode cX4_read 75 = .ok (.invokestatic 98, 3) := by decide +kernel
theorem dX4_read_78 : decode cX4_read 78 = .ok (.istore_n 3, 1) := by decide +kernel
theorem dX4_read_79 : decode cX4_read 79 = .ok (.iload_n 3, 1) := by decide +kernel
theorem dX4_read_80 : decode cX4_read 80 = .ok (.bipush (-9), 2) := by decide +kernel
theorem dX4_read_82 : decode cX4_read 82 = .ok (.if_icmp .eq 12, 3) := by decide +kernel
theorem dX4_read_85 : decode cX4_read 85 = .ok (.aload_n 0, 1) := by decide +kernel
theorem dX4_read_86 : decode cX4_read 86 = .ok (.getfield 95, 3) := by decide +kernel
theorem dX4_read_89 : decode cX4_read 89 = .ok (.bipush 7, 2) := by decide +kernel
theorem dX4_read_91 : decode cX4_read 91 = .ok (.if_icmp .ne 5, 3) := by decide +kernel
theorem dX4_read_94 : decode cX4_read 94 = .ok (.iload_n 2, 1) := by decide +kernel
theorem dX4_read_95 : decode cX4_read 95 = .ok (.ireturn, 1) := by decide +kernel
theorem dX4_read_96 : decode cX4_read 96 = .ok (.aload_n 0, 1) := by decide +kernel
theorem dX4_read_97 : decode cX4_read 97 = .ok (.getfield 33, 3) := by decide +kernel
theorem dX4_read_100 : decode cX4_read 100 = .ok (.bipush 7, 2) := by decide +kernel
theorem dX4_read_102 : decode cX4_read 102 = .ok (.aload_n 0, 1) := by decide +kernel
theorem dX4_read_103 : decode cX4_read 103 = .ok (.getfield 95, 3) := by decide +kernel
theorem dX4_read_106 : decode cX4_read 106 = .ok (.iadd, 1) := by decide +kernel
theorem dX4_read_107 : decode cX4_read 107 = .ok (.iload_n 3, 1) := by decide +kernel
theorem dX4_read_108 : decode cX4_read 108 = .ok (.iastore, 1) := by decide +kernel
theorem dX4_read_109 : decode cX4_read 109 = .ok (.iconst 1, 1) := by decide +kernel
theorem dX4_read_110 : decode cX4_read 110 = .ok (.istore 4, 2) := by decide +kernel
theorem dX4_read_112 : decode cX4_read 112 = .ok (.iload 4, 2) := by decide +kernel
theorem dX4_read_114 : decode cX4_read 114 = .ok (.iconst 2, 1) := by decide +kernel
theorem dX4_read_115 : decode cX4_read 115 = .ok (.if_icmp .gt 51, 3) := by decide +kernel
theorem dX4_read_118 : decode cX4_read 118 = .ok (.iload_n 2, 1) := by decide +kernel
theorem dX4_read_119 : decode cX4_read 119 = .ok (.iload 4, 2) := by decide +kernel
theorem dX4_read_121 : decode cX4_read 121 = .ok (.iadd, 1) := by decide +kernel
theorem dX4_read_122 : decode cX4_read 122 = .ok (.aload_n 0, 1) := by decide +kernel
theorem dX4_read_123 : decode cX4_read 123 = .ok (.getfield 23, 3) := by decide +kernel
theorem dX4_read_126 : decode cX4_read 126 = .ok (.iload_n 1, 1) := by decide +kernel
theorem dX4_read_127 : decode cX4_read 127 = .ok (.iaload, 1) := by decide +kernel
theorem dX4_read_128 : decode cX4_read 128 = .ok (.if_icmp .eq 27, 3) := by decide +kernel
theorem dX4_read_131 : decode cX4_read 131 = .ok (.aload_n 0, 1) := by decide +kernel
theorem dX4_read_132 : decode cX4_read 132 = .ok (.getfield 26, 3) := by decide +kernel
theorem dX4_read_135 : decode cX4_read 135 = .ok (.bipush 60, 2) := by decide +kernel
theorem dX4_read_137 : decode cX4_read 137 = .ok (.iload_n 1, 1) := by decide +kernel
theorem dX4_read_138 : decode cX4_read 138 = .ok (.imul, 1) := by decide +kernel
theorem dX4_read_139 : decode cX4_read 139 = .ok (.iload_n 2, 1) := by decide +kernel
theorem dX4_read_140 : decode cX4_read 140 = .ok (.iadd, 1) := by decide +kernel
theorem dX4_read_141 : decode cX4_read 141 = .ok (.iload 4, 2) := by decide +kernel
theorem dX4_read_143 : decode cX4_read 143 = .ok (.iadd, 1) := by decide +kernel
theorem dX4_read_144 : decode cX4_read 144 = .ok (.baload, 1) := by decide +kernel
theorem dX4_read_145 : decode cX4_read 145 = .ok (.bipush 48, 2) := by decide +kernel
theorem dX4_read_147 : decode cX4_read 147 = .ok (.bipush 57, 2) := by decide +kernel
theorem dX4_read_149 : decode cX4_read 149 = .ok (.invokestatic 77, 3) := by decide +kernel
theorem dX4_read_152 : decode cX4_read 152 = .ok (.ifCond .ne 8, 3) := by decide +kernel
theorem dX4_read_155 : decode cX4_read 155 = .ok (.iload_n 2, 1) := by decide +kernel
theorem dX4_read_156 : decode cX4_read 156 = .ok (.iload 4, 2) := by decide +kernel
theorem dX4_read_158 : decode cX4_read 158 = .ok (.iadd, 1) := by decide +kernel
theorem dX4_read_159 : decode cX4_read 159 = .ok (.ireturn, 1) := by decide +kernel
theorem dX4_read_160 : decode cX4_read 160 = .ok (.iinc 4 1, 3) := by decide +kernel
theorem dX4_read_163 : decode cX4_read 163 = .ok (.goto (-51), 3) := by decide +kernel
theorem dX4_read_166 : decode cX4_read 166 = .ok (.aload_n 0, 1) := by decide +kernel
theorem dX4_read_167 : decode cX4_read 167 = .ok (.getfield 36, 3) := by decide +kernel
theorem dX4_read_170 : decode cX4_read 170 = .ok (.bipush 7, 2) := by decide +kernel
theorem dX4_read_172 : decode cX4_read 172 = .ok (.aload_n 0, 1) := by decide +kernel
theorem dX4_read_173 : decode cX4_read 173 = .ok (.getfield 95, 3) := by decide +kernel
theorem dX4_read_176 : decode cX4_read 176 = .ok (.iadd, 1) := by decide +kernel
theorem dX4_read_177 : decode cX4_read 177 = .ok (.aload_n 0, 1) := by decide +kernel
theorem dX4_read_178 : decode cX4_read 178 = .ok (.getfield 26, 3) := by decide +kernel
theorem dX4_read_181 : decode cX4_read 181 = .ok (.bipush 60, 2) := by decide +kernel
theorem dX4_read_183 : decode cX4_read 183 = .ok (.iload_n 1, 1) := by decide +kernel
theorem dX4_read_184 : decode cX4_read 184 = .ok (.imul, 1) := by decide +kernel
theorem dX4_read_185 : decode cX4_read 185 = .ok (.iload_n 2, 1) := by decide +kernel
theorem dX4_read_186 : decode cX4_read 186 = .ok (.iadd, 1) := by decide +kernel
theorem dX4_read_187 : decode cX4_read 187 = .ok (.iconst 1, 1) := by decide +kernel
theorem dX4_read_188 : decode cX4_read 188 = .ok (.iadd, 1) := by decide +kernel
theorem dX4_read_189 : decode cX4_read 189 = .ok (.baload, 1) := by decide +kernel
theorem dX4_read_190 : decode cX4_read 190 = .ok (.bipush 48, 2) := by decide +kernel
theorem dX4_read_192 : decode cX4_read 192 = .ok (.isub, 1) := by decide +kernel
theorem dX4_read_193 : decode cX4_read 193 = .ok (.iastore, 1) := by decide +kernel
theorem dX4_read_194 : decode cX4_read 194 = .ok (.aload_n 0, 1) := by decide +kernel
theorem dX4_read_195 : decode cX4_read 195 = .ok (.getfield 39, 3) := by decide +kernel
theorem dX4_read_198 : decode cX4_read 198 = .ok (.bipush 7, 2) := by decide +kernel
theorem dX4_read_200 : decode cX4_read 200 = .ok (.aload_n 0, 1) := by decide +kernel
theorem dX4_read_201 : decode cX4_read 201 = .ok (.getfield 95, 3) := by decide +kernel
theorem dX4_read_204 : decode cX4_read 204 = .ok (.iadd, 1) := by decide +kernel
theorem dX4_read_205 : decode cX4_read 205 = .ok (.aload_n 0, 1) := by decide +kernel
theorem dX4_read_206 : decode cX4_read 206 = .ok (.getfield 26, 3) := by decide +kernel
theorem dX4_read_209 : decode cX4_read 209 = .ok (.bipush 60, 2) := by decide +kernel
theorem dX4_read_211 : decode cX4_read 211 = .ok (.iload_n 1, 1) := by decide +kernel
theorem dX4_read_212 : decode cX4_read 212 = .ok (.imul, 1) := by decide +kernel
theorem dX4_read_213 : decode cX4_read 213 = .ok (.iload_n 2, 1) := by decide +kernel
theorem dX4_read_214 : decode cX4_read 214 = .ok (.iadd, 1) := by decide +kernel
theorem dX4_read_215 : decode cX4_read 215 = .ok (.iconst 2, 1) := by decide +kernel
theorem dX4_read_216 : decode cX4_read 216 = .ok (.iadd, 1) := by decide +kernel
theorem dX4_read_217 : decode cX4_read 217 = .ok (.baload, 1) := by decide +kernel
theorem dX4_read_218 : decode cX4_read 218 = .ok (.bipush 48, 2) := by decide +kernel
theorem dX4_read_220 : decode cX4_read 220 = .ok (.isub, 1) := by decide +kernel
theorem dX4_read_221 : decode cX4_read 221 = .ok (.iastore, 1) := by decide +kernel
theorem dX4_read_222 : decode cX4_read 222 = .ok (.aload_n 0, 1) := by decide +kernel
theorem dX4_read_223 : decode cX4_read 223 = .ok (.dup, 1) := by decide +kernel
theorem dX4_read_224 : decode cX4_read 224 = .ok (.getfield 95, 3) := by decide +kernel
theorem dX4_read_227 : decode cX4_read 227 = .ok (.iconst 1, 1) := by decide +kernel
theorem dX4_read_228 : decode cX4_read 228 = .ok (.iadd, 1) := by decide +kernel
theorem dX4_read_229 : decode cX4_read 229 = .ok (.putfield 95, 3) := by decide +kernel
theorem dX4_read_232 : decode cX4_read 232 = .ok (.iinc 2 3, 3) := by decide +kernel
theorem dX4_read_235 : decode cX4_read 235 = .ok (.goto (-228), 3) := by decide +kernel
theorem dX4_fault_0 : decode cX4_fault 0 = .ok (.iload_n 1, 1) := by decide +kernel
theorem dX4_fault_1 : decode cX4_fault 1 = .ok (.invokestatic 92, 3) := by decide +kernel
theorem dX4_fault_4 : decode cX4_fault 4 = .ok (.ifCond .ne 5, 3) := by decide +kernel
theorem dX4_fault_7 : decode cX4_fault 7 = .ok (.iconst (-1), 1) := by decide +kernel
theorem dX4_fault_8 : decode cX4_fault 8 = .ok (.ireturn, 1) := by decide +kernel
theorem dX4_fault_9 : decode cX4_fault 9 = .ok (.aload_n 0, 1) := by decide +kernel
theorem dX4_fault_10 : decode cX4_fault 10 = .ok (.getfield 23, 3) := by decide +kernel
theorem dX4_fault_13 : decode cX4_fault 13 = .ok (.iload_n 1, 1) := by decide +kernel
theorem dX4_fault_14 : decode cX4_fault 14 = .ok (.iaload, 1) := by decide +kernel
theorem dX4_fault_15 : decode cX4_fault 15 = .ok (.ifCond .ge 11, 3) := by decide +kernel
theorem dX4_fault_18 : decode cX4_fault 18 = .ok (.aload_n 0, 1) := by decide +kernel
theorem dX4_fault_19 : decode cX4_fault 19 = .ok (.iconst 1, 1) := by decide +kernel
theorem dX4_fault_20 : decode cX4_fault 20 = .ok (.invokevirtual 85, 3) := by decide +kernel
theorem dX4_fault_23 : decode cX4_fault 23 = .ok (.goto 8, 3) := by decide +kernel
theorem dX4_fault_26 : decode cX4_fault 26 = .ok (.aload_n 0, 1) := by decide +kernel
theorem dX4_fault_27 : decode cX4_fault 27 = .ok (.iload_n 1, 1) := by decide +kernel
theorem dX4_fault_28 : decode cX4_fault 28 = .ok (.invokevirtual 101, 3) := by decide +kernel
theorem dX4_fault_31 : decode cX4_fault 31 = .ok (.ireturn, 1) := by decide +kernel
theorem dX4_gate_0 : decode cX4_gate 0 = .ok (.iload_n 1, 1) := by decide +kernel
theorem dX4_gate_1 : decode cX4_gate 1 = .ok (.invokestatic 92, 3) := by decide +kernel
theorem dX4_gate_4 : decode cX4_gate 4 = .ok (.ifCond .ne 5, 3) := by decide +kernel
theorem dX4_gate_7 : decode cX4_gate 7 = .ok (.iconst (-1), 1) := by decide +kernel
theorem dX4_gate_8 : decode cX4_gate 8 = .ok (.ireturn, 1) := by decide +kernel
theorem dX4_gate_9 : decode cX4_gate 9 = .ok (.aload_n 0, 1) := by decide +kernel
theorem dX4_gate_10 : decode cX4_gate 10 = .ok (.getfield 23, 3) := by decide +kernel
theorem dX4_gate_13 : decode cX4_gate 13 = .ok (.iload_n 1, 1) := by decide +kernel
theorem dX4_gate_14 : decode cX4_gate 14 = .ok (.iaload, 1) := by decide +kernel
theorem dX4_gate_15 : decode cX4_gate 15 = .ok (.ifCond .ge 9, 3) := by decide +kernel
theorem dX4_gate_18 : decode cX4_gate 18 = .ok (.aload_n 0, 1) := by decide +kernel
theorem dX4_gate_19 : decode cX4_gate 19 = .ok (.iconst 1, 1) := by decide +kernel
theorem dX4_gate_20 : decode cX4_gate 20 = .ok (.invokevirtual 85, 3) := by decide +kernel
theorem dX4_gate_23 : decode cX4_gate 23 = .ok (.ireturn, 1) := by decide +kernel
theorem dX4_gate_24 : decode cX4_gate 24 = .ok (.aload_n 0, 1) := by decide +kernel
theorem dX4_gate_25 : decode cX4_gate 25 = .ok (.iload_n 1, 1) := by decide +kernel
theorem dX4_gate_26 : decode cX4_gate 26 = .ok (.invokevirtual 101, 3) := by decide +kernel
theorem dX4_gate_29 : decode cX4_gate 29 = .ok (.bipush (-9), 2) := by decide +kernel
theorem dX4_gate_31 : decode cX4_gate 31 = .ok (.if_icmp .eq 6, 3) := by decide +kernel
theorem dX4_gate_34 : decode cX4_gate 34 = .ok (.bipush (-4), 2) := by decide +kernel
theorem dX4_gate_36 : decode cX4_gate 36 = .ok (.ireturn, 1) := by decide +kernel
theorem dX4_gate_37 : decode cX4_gate 37 = .ok (.aload_n 0, 1) := by decide +kernel
theorem dX4_gate_38 : decode cX4_gate 38 = .ok (.aload_n 0, 1) := by decide +kernel
theorem dX4_gate_39 : decode cX4_gate 39 = .ok (.getfield 95, 3) := by decide +kernel
theorem dX4_gate_42 : decode cX4_gate 42 = .ok (.putfield 104, 3) := by decide +kernel
theorem dX4_gate_45 : decode cX4_gate 45 = .ok (.iconst 0, 1) := by decide +kernel
theorem dX4_gate_46 : decode cX4_gate 46 = .ok (.istore_n 2, 1) := by decide +kernel
theorem dX4_gate_47 : decode cX4_gate 47 = .ok (.iload_n 2, 1) := by decide +kernel
theorem dX4_gate_48 : decode cX4_gate 48 = .ok (.aload_n 0, 1) := by decide +kernel
theorem dX4_gate_49 : decode cX4_gate 49 = .ok (.getfield 104, 3) := by decide +kernel
theorem dX4_gate_52 : decode cX4_gate 52 = .ok (.if_icmp .ge 77, 3) := by decide +kernel
theorem dX4_gate_55 : decode cX4_gate 55 = .ok (.aload_n 0, 1) := by decide +kernel
theorem dX4_gate_56 : decode cX4_gate 56 = .ok (.getfield 33, 3) := by decide +kernel
theorem dX4_gate_59 : decode cX4_gate 59 = .ok (.iload_n 2, 1) := by decide +kernel
theorem dX4_gate_60 : decode cX4_gate 60 = .ok (.aload_n 0, 1) := by decide +kernel
theorem dX4_gate_61 : decode cX4_gate 61 = .ok (.getfield 33, 3) := by decide +kernel
theorem dX4_gate_64 : decode cX4_gate 64 = .ok (.bipush 7, 2) := by decide +kernel
theorem dX4_gate_66 : decode cX4_gate 66 = .ok (.iload_n 2, 1) := by decide +kernel
theorem dX4_gate_67 : decode cX4_gate 67 = .ok (.iadd, 1) := by decide +kernel
theorem dX4_gate_68 : decode cX4_gate 68 = .ok (.iaload, 1) := by decide +kernel
theorem dX4_gate_69 : decode cX4_gate 69 = .ok (.iastore, 1) := by decide +kernel
theorem dX4_gate_70 : decode cX4_gate 70 = .ok (.aload_n 0, 1) := by decide +kernel
theorem dX4_gate_71 : decode cX4_gate 71 = .ok (.getfield 36, 3) := by decide +kernel
theorem dX4_gate_74 : decode cX4_gate 74 = .ok (.iload_n 2, 1) := by decide +kernel
theorem dX4_gate_75 : decode cX4_gate 75 = .ok (.aload_n 0, 1) := by decide +kernel
theorem dX4_gate_76 : decode cX4_gate 76 = .ok (.getfield 36, 3) := by decide +kernel
theorem dX4_gate_79 : decode cX4_gate 79 = .ok (.bipush 7, 2) := by decide +kernel
theorem dX4_gate_81 : decode cX4_gate 81 = .ok (.iload_n 2, 1) := by decide +kernel
theorem dX4_gate_82 : decode cX4_gate 82 = .ok (.iadd, 1) := by decide +kernel
theorem dX4_gate_83 : decode cX4_gate 83 = .ok (.iaload, 1) := by decide +kernel
theorem dX4_gate_84 : decode cX4_gate 84 = .ok (.iastore, 1) := by decide +kernel
theorem dX4_gate_85 : decode cX4_gate 85 = .ok (.aload_n 0, 1) := by decide +kernel
theorem dX4_gate_86 : decode cX4_gate 86 = .ok (.getfield 39, 3) := by decide +kernel
theorem dX4_gate_89 : decode cX4_gate 89 = .ok (.bipush 7, 2) := by decide +kernel
theorem dX4_gate_91 : decode cX4_gate 91 = .ok (.iload_n 2, 1) := by decide +kernel
theorem dX4_gate_92 : decode cX4_gate 92 = .ok (.iadd, 1) := by decide +kernel
theorem dX4_gate_93 : decode cX4_gate 93 = .ok (.iaload, 1) := by decide +kernel
theorem dX4_gate_94 : decode cX4_gate 94 = .ok (.istore_n 3, 1) := by decide +kernel
theorem dX4_gate_95 : decode cX4_gate 95 = .ok (.aload_n 0, 1) := by decide +kernel
theorem dX4_gate_96 : decode cX4_gate 96 = .ok (.getfield 42, 3) := by decide +kernel
theorem dX4_gate_99 : decode cX4_gate 99 = .ok (.iconst 0, 1) := by decide +kernel
theorem dX4_gate_100 : decode cX4_gate 100 = .ok (.iload_n 2, 1) := by decide +kernel
theorem dX4_gate_101 : decode cX4_gate 101 = .ok (.iadd, 1) := by decide +kernel
theorem dX4_gate_102 : decode cX4_gate 102 = .ok (.iload_n 3, 1) := by decide +kernel
theorem dX4_gate_103 : decode cX4_gate 103 = .ok (.aload_n 0, 1) := by decide +kernel
theorem dX4_gate_104 : decode cX4_gate 104 = .ok (.getfield 104, 3) := by decide +kernel
theorem dX4_gate_107 : decode cX4_gate 107 = .ok (.if_icmp .ge 14, 3) := by decide +kernel
theorem dX4_gate_110 : decode cX4_gate 110 = .ok (.iload_n 3, 1) := by decide +kernel
theorem dX4_gate_111 : decode cX4_gate 111 = .ok (.iload_n 2, 1) := by decide +kernel
theorem dX4_gate_112 : decode cX4_gate 112 = .ok (.if_icmp .eq 9, 3) := by decide +kernel
theorem dX4_gate_115 : decode cX4_gate 115 = .ok (.iconst 1, 1) := by decide +kernel
theorem dX4_gate_116 : decode cX4_gate 116 = .ok (.iload_n 3, 1) := by decide +kernel
theorem dX4_gate_117 : decode cX4_gate 117 = .ok (.ishl, 1) := by decide +kernel
theorem dX4_gate_118 : decode cX4_gate 118 = .ok (.goto 4, 3) := by decide +kernel
theorem dX4_gate_121 : decode cX4_gate 121 = .ok (.iconst 0, 1) := by decide +kernel
theorem dX4_gate_122 : decode cX4_gate 122 = .ok (.iastore, 1) := by decide +kernel
theorem dX4_gate_123 : decode cX4_gate 123 = .ok (.iinc 2 1, 3) := by decide +kernel
theorem dX4_gate_126 : decode cX4_gate 126 = .ok (.goto (-79), 3) := by decide +kernel
theorem dX4_gate_129 : decode cX4_gate 129 = .ok (.aload_n 0, 1) := by decide +kernel
theorem dX4_gate_130 : decode cX4_gate 130 = .ok (.getfield 42, 3) := by decide +kernel
theorem dX4_gate_133 : decode cX4_gate 133 = .ok (.bipush 7, 2) := by decide +kernel
theorem dX4_gate_135 : decode cX4_gate 135 = .ok (.iconst 0, 1) := by decide +kernel
theorem dX4_gate_136 : decode cX4_gate 136 = .ok (.iastore, 1) := by decide +kernel
theorem dX4_gate_137 : decode cX4_gate 137 = .ok (.aload_n 0, 1) := by decide +kernel
theorem dX4_gate_138 : decode cX4_gate 138 = .ok (.getfield 42, 3) := by decide +kernel
theorem dX4_gate_141 : decode cX4_gate 141 = .ok (.bipush 8, 2) := by decide +kernel
theorem dX4_gate_143 : decode cX4_gate 143 = .ok (.bipush (-9), 2) := by decide +kernel
theorem dX4_gate_145 : decode cX4_gate 145 = .ok (.iastore, 1) := by decide +kernel
theorem dX4_gate_146 : decode cX4_gate 146 = .ok (.aload_n 0, 1) := by decide +kernel
theorem dX4_gate_147 : decode cX4_gate 147 = .ok (.getfield 42, 3) := by decide +kernel
theorem dX4_gate_150 : decode cX4_gate 150 = .ok (.bipush 9, 2) := by decide +kernel
theorem dX4_gate_152 : decode cX4_gate 152 = .ok (.iconst 0, 1) := by decide +kernel
theorem dX4_gate_153 : decode cX4_gate 153 = .ok (.iastore, 1) := by decide +kernel
theorem dX4_gate_154 : decode cX4_gate 154 = .ok (.aload_n 0, 1) := by decide +kernel
theorem dX4_gate_155 : decode cX4_gate 155 = .ok (.iconst 0, 1) := by decide +kernel
theorem dX4_gate_156 : decode cX4_gate 156 = .ok (.putfield 107, 3) := by decide +kernel
theorem dX4_gate_159 : decode cX4_gate 159 = .ok (.iconst 0, 1) := by decide +kernel
theorem dX4_gate_160 : decode cX4_gate 160 = .ok (.istore_n 2, 1) := by decide +kernel
theorem dX4_gate_161 : decode cX4_gate 161 = .ok (.iload_n 2, 1) := by decide +kernel
theorem dX4_gate_162 : decode cX4_gate 162 = .ok (.iconst 3, 1) := by decide +kernel
theorem dX4_gate_163 : decode cX4_gate 163 = .ok (.if_icmp .ge 16, 3) := by decide +kernel
theorem dX4_gate_166 : decode cX4_gate 166 = .ok (.aload_n 0, 1) := by decide +kernel
theorem dX4_gate_167 : decode cX4_gate 167 = .ok (.getfield 48, 3) := by decide +kernel
theorem dX4_gate_170 : decode cX4_gate 170 = .ok (.iload_n 2, 1) := by decide +kernel
theorem dX4_gate_171 : decode cX4_gate 171 = .ok (.iconst (-1), 1) := by decide +kernel
theorem dX4_gate_172 : decode cX4_gate 172 = .ok (.iastore, 1) := by decide +kernel
theorem dX4_gate_173 : decode cX4_gate 173 = .ok (.iinc 2 1, 3) := by decide +kernel
theorem dX4_gate_176 : decode cX4_gate 176 = .ok (.goto (-15), 3) := by decide +kernel
theorem dX4_gate_179 : decode cX4_gate 179 = .ok (.aload_n 0, 1) := by decide +kernel
theorem dX4_gate_180 : decode cX4_gate 180 = .ok (.getfield 104, 3) := by decide +kernel
theorem dX4_gate_183 : decode cX4_gate 183 = .ok (.ireturn, 1) := by decide +kernel
theorem dX4_now_0 : decode cX4_now 0 = .ok (.aload_n 0, 1) := by decide +kernel
theorem dX4_now_1 : decode cX4_now 1 = .ok (.getfield 42, 3) := by decide +kernel
theorem dX4_now_4 : decode cX4_now 4 = .ok (.bipush 10, 2) := by decide +kernel
theorem dX4_now_6 : decode cX4_now 6 = .ok (.aload_n 0, 1) := by decide +kernel
theorem dX4_now_7 : decode cX4_now 7 = .ok (.getfield 107, 3) := by decide +kernel
theorem dX4_now_10 : decode cX4_now 10 = .ok (.imul, 1) := by decide +kernel
theorem dX4_now_11 : decode cX4_now 11 = .ok (.iload_n 1, 1) := by decide +kernel
theorem dX4_now_12 : decode cX4_now 12 = .ok (.iadd, 1) := by decide +kernel
theorem dX4_now_13 : decode cX4_now 13 = .ok (.iaload, 1) := by decide +kernel
theorem dX4_now_14 : decode cX4_now 14 = .ok (.ireturn, 1) := by decide +kernel
theorem dX4_isGoer_0 : decode cX4_isGoer 0 = .ok (.iload_n 1, 1) := by decide +kernel
theorem dX4_isGoer_1 : decode cX4_isGoer 1 = .ok (.iconst 0, 1) := by decide +kernel
theorem dX4_isGoer_2 : decode cX4_isGoer 2 = .ok (.aload_n 0, 1) := by decide +kernel
theorem dX4_isGoer_3 : decode cX4_isGoer 3 = .ok (.getfield 104, 3) := by decide +kernel
theorem dX4_isGoer_6 : decode cX4_isGoer 6 = .ok (.iconst 1, 1) := by decide +kernel
theorem dX4_isGoer_7 : decode cX4_isGoer 7 = .ok (.isub, 1) := by decide +kernel
theorem dX4_isGoer_8 : decode cX4_isGoer 8 = .ok (.invokestatic 77, 3) := by decide +kernel
theorem dX4_isGoer_11 : decode cX4_isGoer 11 = .ok (.ireturn, 1) := by decide +kernel
theorem dX4_isSet_0 : decode cX4_isSet 0 = .ok (.iload_n 1, 1) := by decide +kernel
theorem dX4_isSet_1 : decode cX4_isSet 1 = .ok (.iconst 0, 1) := by decide +kernel
theorem dX4_isSet_2 : decode cX4_isSet 2 = .ok (.iconst 1, 1) := by decide +kernel
theorem dX4_isSet_3 : decode cX4_isSet 3 = .ok (.aload_n 0, 1) := by decide +kernel
theorem dX4_isSet_4 : decode cX4_isSet 4 = .ok (.getfield 104, 3) := by decide +kernel
theorem dX4_isSet_7 : decode cX4_isSet 7 = .ok (.ishl, 1) := by decide +kernel
theorem dX4_isSet_8 : decode cX4_isSet 8 = .ok (.iconst 1, 1) := by decide +kernel
theorem dX4_isSet_9 : decode cX4_isSet 9 = .ok (.isub, 1) := by decide +kernel
theorem dX4_isSet_10 : decode cX4_isSet 10 = .ok (.invokestatic 77, 3) := by decide +kernel
theorem dX4_isSet_13 : decode cX4_isSet 13 = .ok (.ireturn, 1) := by decide +kernel
theorem dX4_toldOf_0 : decode cX4_toldOf 0 = .ok (.aload_n 0, 1) := by decide +kernel
theorem dX4_toldOf_1 : decode cX4_toldOf 1 = .ok (.iconst 0, 1) := by decide +kernel
theorem dX4_toldOf_2 : decode cX4_toldOf 2 = .ok (.iload_n 1, 1) := by decide +kernel
theorem dX4_toldOf_3 : decode cX4_toldOf 3 = .ok (.iadd, 1) := by decide +kernel
theorem dX4_toldOf_4 : decode cX4_toldOf 4 = .ok (.invokevirtual 110, 3) := by decide +kernel
theorem dX4_toldOf_7 : decode cX4_toldOf 7 = .ok (.ireturn, 1) := by decide +kernel
theorem dX4_tellsBy_0 : decode cX4_tellsBy 0 = .ok (.iload_n 2, 1) := by decide +kernel
theorem dX4_tellsBy_1 : decode cX4_tellsBy 1 = .ok (.iconst 1, 1) := by decide +kernel
theorem dX4_tellsBy_2 : decode cX4_tellsBy 2 = .ok (.iload_n 0, 1) := by decide +kernel
theorem dX4_tellsBy_3 : decode cX4_tellsBy 3 = .ok (.ishl, 1) := by decide +kernel
theorem dX4_tellsBy_4 : decode cX4_tellsBy 4 = .ok (.iconst (-1), 1) := by decide +kernel
theorem dX4_tellsBy_5 : decode cX4_tellsBy 5 = .ok (.ixor, 1) := by decide +kernel
theorem dX4_tellsBy_6 : decode cX4_tellsBy 6 = .ok (.iand, 1) := by decide +kernel
theorem dX4_tellsBy_7 : decode cX4_tellsBy 7 = .ok (.istore_n 3, 1) := by decide +kernel
theorem dX4_tellsBy_8 : decode cX4_tellsBy 8 = .ok (.iload_n 1, 1) := by decide +kernel
theorem dX4_tellsBy_9 : decode cX4_tellsBy 9 = .ok (.tableswitch 37 3 5 #[27, 29, 35], 27) := by decide +kernel
theorem dX4_tellsBy_36 : decode cX4_tellsBy 36 = .ok (.iconst 0, 1) := by decide +kernel
theorem dX4_tellsBy_37 : decode cX4_tellsBy 37 = .ok (.ireturn, 1) := by decide +kernel
theorem dX4_tellsBy_38 : decode cX4_tellsBy 38 = .ok (.iload_n 3, 1) := by decide +kernel
theorem dX4_tellsBy_39 : decode cX4_tellsBy 39 = .ok (.iconst 1, 1) := by decide +kernel
theorem dX4_tellsBy_40 : decode cX4_tellsBy 40 = .ok (.iload_n 0, 1) := by decide +kernel
theorem dX4_tellsBy_41 : decode cX4_tellsBy 41 = .ok (.ishl, 1) := by decide +kernel
theorem dX4_tellsBy_42 : decode cX4_tellsBy 42 = .ok (.ior, 1) := by decide +kernel
theorem dX4_tellsBy_43 : decode cX4_tellsBy 43 = .ok (.ireturn, 1) := by decide +kernel
theorem dX4_tellsBy_44 : decode cX4_tellsBy 44 = .ok (.iload_n 3, 1) := by decide +kernel
theorem dX4_tellsBy_45 : decode cX4_tellsBy 45 = .ok (.ireturn, 1) := by decide +kernel
theorem dX4_tellsBy_46 : decode cX4_tellsBy 46 = .ok (.iconst 1, 1) := by decide +kernel
theorem dX4_tellsBy_47 : decode cX4_tellsBy 47 = .ok (.iload_n 0, 1) := by decide +kernel
theorem dX4_tellsBy_48 : decode cX4_tellsBy 48 = .ok (.ishl, 1) := by decide +kernel
theorem dX4_tellsBy_49 : decode cX4_tellsBy 49 = .ok (.ireturn, 1) := by decide +kernel
theorem dX4_tellsOf_0 : decode cX4_tellsOf 0 = .ok (.iload_n 1, 1) := by decide +kernel
theorem dX4_tellsOf_1 : decode cX4_tellsOf 1 = .ok (.aload_n 0, 1) := by decide +kernel
theorem dX4_tellsOf_2 : decode cX4_tellsOf 2 = .ok (.getfield 33, 3) := by decide +kernel
theorem dX4_tellsOf_5 : decode cX4_tellsOf 5 = .ok (.iload_n 1, 1) := by decide +kernel
theorem dX4_tellsOf_6 : decode cX4_tellsOf 6 = .ok (.iaload, 1) := by decide +kernel
theorem dX4_tellsOf_7 : decode cX4_tellsOf 7 = .ok (.aload_n 0, 1) := by decide +kernel
theorem dX4_tellsOf_8 : decode cX4_tellsOf 8 = .ok (.iload_n 1, 1) := by decide +kernel
theorem dX4_tellsOf_9 : decode cX4_tellsOf 9 = .ok (.invokevirtual 113, 3) := by decide +kernel
theorem dX4_tellsOf_12 : decode cX4_tellsOf 12 = .ok (.invokestatic 116, 3) := by decide +kernel
theorem dX4_tellsOf_15 : decode cX4_tellsOf 15 = .ok (.ireturn, 1) := by decide +kernel
theorem dX4_ofKind_0 : decode cX4_ofKind 0 = .ok (.iconst 0, 1) := by decide +kernel
theorem dX4_ofKind_1 : decode cX4_ofKind 1 = .ok (.istore_n 2, 1) := by decide +kernel
theorem dX4_ofKind_2 : decode cX4_ofKind 2 = .ok (.iconst 0, 1) := by decide +kernel
theorem dX4_ofKind_3 : decode cX4_ofKind 3 = .ok (.istore_n 3, 1) := by decide +kernel
theorem dX4_ofKind_4 : decode cX4_ofKind 4 = .ok (.iload_n 3, 1) := by decide +kernel
theorem dX4_ofKind_5 : decode cX4_ofKind 5 = .ok (.aload_n 0, 1) := by decide +kernel
theorem dX4_ofKind_6 : decode cX4_ofKind 6 = .ok (.getfield 104, 3) := by decide +kernel
theorem dX4_ofKind_9 : decode cX4_ofKind 9 = .ok (.if_icmp .ge 29, 3) := by decide +kernel
theorem dX4_ofKind_12 : decode cX4_ofKind 12 = .ok (.iload_n 2, 1) := by decide +kernel
theorem dX4_ofKind_13 : decode cX4_ofKind 13 = .ok (.aload_n 0, 1) := by decide +kernel
theorem dX4_ofKind_14 : decode cX4_ofKind 14 = .ok (.getfield 33, 3) := by decide +kernel
theorem dX4_ofKind_17 : decode cX4_ofKind 17 = .ok (.iload_n 3, 1) := by decide +kernel
theorem dX4_ofKind_18 : decode cX4_ofKind 18 = .ok (.iaload, 1) := by decide +kernel
theorem dX4_ofKind_19 : decode cX4_ofKind 19 = .ok (.iload_n 1, 1) := by decide +kernel
theorem dX4_ofKind_20 : decode cX4_ofKind 20 = .ok (.if_icmp .ne 9, 3) := by decide +kernel
theorem dX4_ofKind_23 : decode cX4_ofKind 23 = .ok (.iconst 1, 1) := by decide +kernel
theorem dX4_ofKind_24 : decode cX4_ofKind 24 = .ok (.iload_n 3, 1) := by decide +kernel
theorem dX4_ofKind_25 : decode cX4_ofKind 25 = .ok (.ishl, 1) := by decide +kernel
theorem dX4_ofKind_26 : decode cX4_ofKind 26 = .ok (.goto 4, 3) := by decide +kernel
theorem dX4_ofKind_29 : decode cX4_ofKind 29 = .ok (.iconst 0, 1) := by decide +kernel
theorem dX4_ofKind_30 : decode cX4_ofKind 30 = .ok (.ior, 1) := by decide +kernel
theorem dX4_ofKind_31 : decode cX4_ofKind 31 = .ok (.istore_n 2, 1) := by decide +kernel
theorem dX4_ofKind_32 : decode cX4_ofKind 32 = .ok (.iinc 3 1, 3) := by decide +kernel
theorem dX4_ofKind_35 : decode cX4_ofKind 35 = .ok (.goto (-31), 3) := by decide +kernel
theorem dX4_ofKind_38 : decode cX4_ofKind 38 = .ok (.iload_n 2, 1) := by decide +kernel
theorem dX4_ofKind_39 : decode cX4_ofKind 39 = .ok (.ireturn, 1) := by decide +kernel
theorem dX4_namesBy_0 : decode cX4_namesBy 0 = .ok (.aload_n 0, 1) := by decide +kernel
theorem dX4_namesBy_1 : decode cX4_namesBy 1 = .ok (.iconst 2, 1) := by decide +kernel
theorem dX4_namesBy_2 : decode cX4_namesBy 2 = .ok (.invokevirtual 120, 3) := by decide +kernel
theorem dX4_namesBy_5 : decode cX4_namesBy 5 = .ok (.istore_n 3, 1) := by decide +kernel
theorem dX4_namesBy_6 : decode cX4_namesBy 6 = .ok (.iload_n 3, 1) := by decide +kernel
theorem dX4_namesBy_7 : decode cX4_namesBy 7 = .ok (.iload_n 1, 1) := by decide +kernel
theorem dX4_namesBy_8 : decode cX4_namesBy 8 = .ok (.invokestatic 123, 3) := by decide +kernel
theorem dX4_namesBy_11 : decode cX4_namesBy 11 = .ok (.ifCond .ne 9, 3) := by decide +kernel
theorem dX4_namesBy_14 : decode cX4_namesBy 14 = .ok (.iload_n 2, 1) := by decide +kernel
theorem dX4_namesBy_15 : decode cX4_namesBy 15 = .ok (.iload_n 3, 1) := by decide +kernel
theorem dX4_namesBy_16 : decode cX4_namesBy 16 = .ok (.iand, 1) := by decide +kernel
theorem dX4_namesBy_17 : decode cX4_namesBy 17 = .ok (.ifCond .eq 7, 3) := by decide +kernel
theorem dX4_namesBy_20 : decode cX4_namesBy 20 = .ok (.iconst 1, 1) := by decide +kernel
theorem dX4_namesBy_21 : decode cX4_namesBy 21 = .ok (.goto 4, 3) := by decide +kernel
theorem dX4_namesBy_24 : decode cX4_namesBy 24 = .ok (.iconst 0, 1) := by decide +kernel
theorem dX4_namesBy_25 : decode cX4_namesBy 25 = .ok (.istore 4, 2) := by decide +kernel
theorem dX4_namesBy_27 : decode cX4_namesBy 27 = .ok (.iload_n 2, 1) := by decide +kernel
theorem dX4_namesBy_28 : decode cX4_namesBy 28 = .ok (.iconst 1, 1) := by decide +kernel
theorem dX4_namesBy_29 : decode cX4_namesBy 29 = .ok (.iload_n 1, 1) := by decide +kernel
theorem dX4_namesBy_30 : decode cX4_namesBy 30 = .ok (.ishl, 1) := by decide +kernel
theorem dX4_namesBy_31 : decode cX4_namesBy 31 = .ok (.ior, 1) := by decide +kernel
theorem dX4_namesBy_32 : decode cX4_namesBy 32 = .ok (.aload_n 0, 1) := by decide +kernel
theorem dX4_namesBy_33 : decode cX4_namesBy 33 = .ok (.iconst 1, 1) := by decide +kernel
theorem dX4_namesBy_34 : decode cX4_namesBy 34 = .ok (.invokevirtual 120, 3) := by decide +kernel
theorem dX4_namesBy_37 : decode cX4_namesBy 37 = .ok (.ior, 1) := by decide +kernel
theorem dX4_namesBy_38 : decode cX4_namesBy 38 = .ok (.iload 4, 2) := by decide +kernel
theorem dX4_namesBy_40 : decode cX4_namesBy 40 = .ok (.ifCond .eq 7, 3) := by decide +kernel
theorem dX4_namesBy_43 : decode cX4_namesBy 43 = .ok (.iload_n 3, 1) := by decide +kernel
theorem dX4_namesBy_44 : decode cX4_namesBy 44 = .ok (.goto 4, 3) := by decide +kernel
theorem dX4_namesBy_47 : decode cX4_namesBy 47 = .ok (.iconst 0, 1) := by decide +kernel
theorem dX4_namesBy_48 : decode cX4_namesBy 48 = .ok (.ior, 1) := by decide +kernel
theorem dX4_namesBy_49 : decode cX4_namesBy 49 = .ok (.ireturn, 1) := by decide +kernel
theorem dX4_namesOf_0 : decode cX4_namesOf 0 = .ok (.aload_n 0, 1) := by decide +kernel
theorem dX4_namesOf_1 : decode cX4_namesOf 1 = .ok (.iload_n 1, 1) := by decide +kernel
theorem dX4_namesOf_2 : decode cX4_namesOf 2 = .ok (.aload_n 0, 1) := by decide +kernel
theorem dX4_namesOf_3 : decode cX4_namesOf 3 = .ok (.iload_n 1, 1) := by decide +kernel
theorem dX4_namesOf_4 : decode cX4_namesOf 4 = .ok (.invokevirtual 113, 3) := by decide +kernel
theorem dX4_namesOf_7 : decode cX4_namesOf 7 = .ok (.invokevirtual 127, 3) := by decide +kernel
theorem dX4_namesOf_10 : decode cX4_namesOf 10 = .ok (.ireturn, 1) := by decide +kernel
theorem dX4_isThrough_0 : decode cX4_isThrough 0 = .ok (.aload_n 0, 1) := by decide +kernel
theorem dX4_isThrough_1 : decode cX4_isThrough 1 = .ok (.bipush 7, 2) := by decide +kernel
theorem dX4_isThrough_3 : decode cX4_isThrough 3 = .ok (.invokevirtual 110, 3) := by decide +kernel
theorem dX4_isThrough_6 : decode cX4_isThrough 6 = .ok (.iload_n 1, 1) := by decide +kernel
theorem dX4_isThrough_7 : decode cX4_isThrough 7 = .ok (.invokestatic 123, 3) := by decide +kernel
theorem dX4_isThrough_10 : decode cX4_isThrough 10 = .ok (.ireturn, 1) := by decide +kernel
theorem dX4_isOpen_0 : decode cX4_isOpen 0 = .ok (.aload_n 0, 1) := by decide +kernel
theorem dX4_isOpen_1 : decode cX4_isOpen 1 = .ok (.iload_n 1, 1) := by decide +kernel
theorem dX4_isOpen_2 : decode cX4_isOpen 2 = .ok (.invokevirtual 131, 3) := by decide +kernel
theorem dX4_isOpen_5 : decode cX4_isOpen 5 = .ok (.ifCond .ne 35, 3) := by decide +kernel
theorem dX4_isOpen_8 : decode cX4_isOpen 8 = .ok (.aload_n 0, 1) := by decide +kernel
theorem dX4_isOpen_9 : decode cX4_isOpen 9 = .ok (.bipush 8, 2) := by decide +kernel
theorem dX4_isOpen_11 : decode cX4_isOpen 11 = .ok (.invokevirtual 110, 3) := by decide +kernel
theorem dX4_isOpen_14 : decode cX4_isOpen 14 = .ok (.bipush (-9), 2) := by decide +kernel
theorem dX4_isOpen_16 : decode cX4_isOpen 16 = .ok (.if_icmp .eq 20, 3) := by decide +kernel
theorem dX4_isOpen_19 : decode cX4_isOpen 19 = .ok (.aload_n 0, 1) := by decide +kernel
theorem dX4_isOpen_20 : decode cX4_isOpen 20 = .ok (.iload_n 1, 1) := by decide +kernel
theorem dX4_isOpen_21 : decode cX4_isOpen 21 = .ok (.invokevirtual 134, 3) := by decide +kernel
theorem dX4_isOpen_24 : decode cX4_isOpen 24 = .ok (.aload_n 0, 1) := by decide +kernel
theorem dX4_isOpen_25 : decode cX4_isOpen 25 = .ok (.bipush 8, 2) := by decide +kernel
theorem dX4_isOpen_27 : decode cX4_isOpen 27 = .ok (.invokevirtual 110, 3) := by decide +kernel
theorem dX4_isOpen_30 : decode cX4_isOpen 30 = .ok (.invokestatic 123, 3) := by decide +kernel
theorem dX4_isOpen_33 : decode cX4_isOpen 33 = .ok (.ifCond .eq 7, 3) := by decide +kernel
theorem dX4_isOpen_36 : decode cX4_isOpen 36 = .ok (.iconst 1, 1) := by decide +kernel
theorem dX4_isOpen_37 : decode cX4_isOpen 37 = .ok (.goto 4, 3) := by decide +kernel
theorem dX4_isOpen_40 : decode cX4_isOpen 40 = .ok (.iconst 0, 1) := by decide +kernel
theorem dX4_isOpen_41 : decode cX4_isOpen 41 = .ok (.ireturn, 1) := by decide +kernel
theorem dX4_openTo_0 : decode cX4_openTo 0 = .ok (.iconst 0, 1) := by decide +kernel
theorem dX4_openTo_1 : decode cX4_openTo 1 = .ok (.istore_n 1, 1) := by decide +kernel
theorem dX4_openTo_2 : decode cX4_openTo 2 = .ok (.iconst 0, 1) := by decide +kernel
theorem dX4_openTo_3 : decode cX4_openTo 3 = .ok (.istore_n 2, 1) := by decide +kernel
theorem dX4_openTo_4 : decode cX4_openTo 4 = .ok (.iload_n 2, 1) := by decide +kernel
theorem dX4_openTo_5 : decode cX4_openTo 5 = .ok (.aload_n 0, 1) := by decide +kernel
theorem dX4_openTo_6 : decode cX4_openTo 6 = .ok (.getfield 104, 3) := by decide +kernel
theorem dX4_openTo_9 : decode cX4_openTo 9 = .ok (.if_icmp .ge 27, 3) := by decide +kernel
theorem dX4_openTo_12 : decode cX4_openTo 12 = .ok (.iload_n 1, 1) := by decide +kernel
theorem dX4_openTo_13 : decode cX4_openTo 13 = .ok (.aload_n 0, 1) := by decide +kernel
theorem dX4_openTo_14 : decode cX4_openTo 14 = .ok (.iload_n 2, 1) := by decide +kernel
theorem dX4_openTo_15 : decode cX4_openTo 15 = .ok (.invokevirtual 137, 3) := by decide +kernel
theorem dX4_openTo_18 : decode cX4_openTo 18 = .ok (.ifCond .eq 9, 3) := by decide +kernel
theorem dX4_openTo_21 : decode cX4_openTo 21 = .ok (.iconst 1, 1) := by decide +kernel
theorem dX4_openTo_22 : decode cX4_openTo 22 = .ok (.iload_n 2, 1) := by decide +kernel
theorem dX4_openTo_23 : decode cX4_openTo 23 = .ok (.ishl, 1) := by decide +kernel
theorem dX4_openTo_24 : decode cX4_openTo 24 = .ok (.goto 4, 3) := by decide +kernel
theorem dX4_openTo_27 : decode cX4_openTo 27 = .ok (.iconst 0, 1) := by decide +kernel
theorem dX4_openTo_28 : decode cX4_openTo 28 = .ok (.ior, 1) := by decide +kernel
theorem dX4_openTo_29 : decode cX4_openTo 29 = .ok (.istore_n 1, 1) := by decide +kernel
theorem dX4_openTo_30 : decode cX4_openTo 30 = .ok (.iinc 2 1, 3) := by decide +kernel
theorem dX4_openTo_33 : decode cX4_openTo 33 = .ok (.goto (-29), 3) := by decide +kernel
theorem dX4_openTo_36 : decode cX4_openTo 36 = .ok (.iload_n 1, 1) := by decide +kernel
theorem dX4_openTo_37 : decode cX4_openTo 37 = .ok (.ireturn, 1) := by decide +kernel
theorem dX4_left_0 : decode cX4_left 0 = .ok (.iconst 1, 1) := by decide +kernel
theorem dX4_left_1 : decode cX4_left 1 = .ok (.aload_n 0, 1) := by decide +kernel
theorem dX4_left_2 : decode cX4_left 2 = .ok (.getfield 104, 3) := by decide +kernel
theorem dX4_left_5 : decode cX4_left 5 = .ok (.ishl, 1) := by decide +kernel
theorem dX4_left_6 : decode cX4_left 6 = .ok (.iconst 1, 1) := by decide +kernel
theorem dX4_left_7 : decode cX4_left 7 = .ok (.isub, 1) := by decide +kernel
theorem dX4_left_8 : decode cX4_left 8 = .ok (.aload_n 0, 1) := by decide +kernel
theorem dX4_left_9 : decode cX4_left 9 = .ok (.bipush 7, 2) := by decide +kernel
theorem dX4_left_11 : decode cX4_left 11 = .ok (.invokevirtual 110, 3) := by decide +kernel
theorem dX4_left_14 : decode cX4_left 14 = .ok (.iconst (-1), 1) := by decide +kernel
theorem dX4_left_15 : decode cX4_left 15 = .ok (.ixor, 1) := by decide +kernel
theorem dX4_left_16 : decode cX4_left 16 = .ok (.iand, 1) := by decide +kernel
theorem dX4_left_17 : decode cX4_left 17 = .ok (.ireturn, 1) := by decide +kernel
theorem dX4_factOf_0 : decode cX4_factOf 0 = .ok (.iload_n 2, 1) := by decide +kernel
theorem dX4_factOf_1 : decode cX4_factOf 1 = .ok (.tableswitch 85 0 5 #[39, 46, 53, 59, 65, 71], 39) := by decide +kernel
theorem dX4_factOf_40 : decode cX4_factOf 40 = .ok (.aload_n 0, 1) := by decide +kernel
theorem dX4_factOf_41 : decode cX4_factOf 41 = .ok (.getfield 33, 3) := by decide +kernel
theorem dX4_factOf_44 : decode cX4_factOf 44 = .ok (.iload_n 1, 1) := by decide +kernel
theorem dX4_factOf_45 : decode cX4_factOf 45 = .ok (.iaload, 1) := by decide +kernel
theorem dX4_factOf_46 : decode cX4_factOf 46 = .ok (.ireturn, 1) := by decide +kernel
theorem dX4_factOf_47 : decode cX4_factOf 47 = .ok (.aload_n 0, 1) := by decide +kernel
theorem dX4_factOf_48 : decode cX4_factOf 48 = .ok (.getfield 36, 3) := by decide +kernel
theorem dX4_factOf_51 : decode cX4_factOf 51 = .ok (.iload_n 1, 1) := by decide +kernel
theorem dX4_factOf_52 : decode cX4_factOf 52 = .ok (.iaload, 1) := by decide +kernel
theorem dX4_factOf_53 : decode cX4_factOf 53 = .ok (.ireturn, 1) := by decide +kernel
theorem dX4_factOf_54 : decode cX4_factOf 54 = .ok (.aload_n 0, 1) := by decide +kernel
theorem dX4_factOf_55 : decode cX4_factOf 55 = .ok (.iload_n 1, 1) := by decide +kernel
theorem dX4_factOf_56 : decode cX4_factOf 56 = .ok (.invokevirtual 113, 3) := by decide +kernel
theorem dX4_factOf_59 : decode cX4_factOf 59 = .ok (.ireturn, 1) := by decide +kernel
theorem dX4_factOf_60 : decode cX4_factOf 60 = .ok (.aload_n 0, 1) := by decide +kernel
theorem dX4_factOf_61 : decode cX4_factOf 61 = .ok (.iload_n 1, 1) := by decide +kernel
theorem dX4_factOf_62 : decode cX4_factOf 62 = .ok (.invokevirtual 140, 3) := by decide +kernel
theorem dX4_factOf_65 : decode cX4_factOf 65 = .ok (.ireturn, 1) := by decide +kernel
theorem dX4_factOf_66 : decode cX4_factOf 66 = .ok (.aload_n 0, 1) := by decide +kernel
theorem dX4_factOf_67 : decode cX4_factOf 67 = .ok (.iload_n 1, 1) := by decide +kernel
theorem dX4_factOf_68 : decode cX4_factOf 68 = .ok (.invokevirtual 134, 3) := by decide +kernel
theorem dX4_factOf_71 : decode cX4_factOf 71 = .ok (.ireturn, 1) := by decide +kernel
theorem dX4_factOf_72 : decode cX4_factOf 72 = .ok (.aload_n 0, 1) := by decide +kernel
theorem dX4_factOf_73 : decode cX4_factOf 73 = .ok (.iload_n 1, 1) := by decide +kernel
theorem dX4_factOf_74 : decode cX4_factOf 74 = .ok (.invokevirtual 131, 3) := by decide +kernel
theorem dX4_factOf_77 : decode cX4_factOf 77 = .ok (.ifCond .eq 7, 3) := by decide +kernel
theorem dX4_factOf_80 : decode cX4_factOf 80 = .ok (.iconst 1, 1) := by decide +kernel
theorem dX4_factOf_81 : decode cX4_factOf 81 = .ok (.goto 4, 3) := by decide +kernel
theorem dX4_factOf_84 : decode cX4_factOf 84 = .ok (.iconst 0, 1) := by decide +kernel
theorem dX4_factOf_85 : decode cX4_factOf 85 = .ok (.ireturn, 1) := by decide +kernel
theorem dX4_factOf_86 : decode cX4_factOf 86 = .ok (.aload_n 0, 1) := by decide +kernel
theorem dX4_factOf_87 : decode cX4_factOf 87 = .ok (.iload_n 1, 1) := by decide +kernel
theorem dX4_factOf_88 : decode cX4_factOf 88 = .ok (.invokevirtual 137, 3) := by decide +kernel
theorem dX4_factOf_91 : decode cX4_factOf 91 = .ok (.ifCond .eq 7, 3) := by decide +kernel
theorem dX4_factOf_94 : decode cX4_factOf 94 = .ok (.iconst 1, 1) := by decide +kernel
theorem dX4_factOf_95 : decode cX4_factOf 95 = .ok (.goto 4, 3) := by decide +kernel
theorem dX4_factOf_98 : decode cX4_factOf 98 = .ok (.iconst 0, 1) := by decide +kernel
theorem dX4_factOf_99 : decode cX4_factOf 99 = .ok (.ireturn, 1) := by decide +kernel
theorem dX4_goer_0 : decode cX4_goer 0 = .ok (.aload_n 0, 1) := by decide +kernel
theorem dX4_goer_1 : decode cX4_goer 1 = .ok (.iload_n 1, 1) := by decide +kernel
theorem dX4_goer_2 : decode cX4_goer 2 = .ok (.invokevirtual 143, 3) := by decide +kernel
theorem dX4_goer_5 : decode cX4_goer 5 = .ok (.ifCond .eq 26, 3) := by decide +kernel
theorem dX4_goer_8 : decode cX4_goer 8 = .ok (.iload_n 2, 1) := by decide +kernel
theorem dX4_goer_9 : decode cX4_goer 9 = .ok (.iconst 0, 1) := by decide +kernel
theorem dX4_goer_10 : decode cX4_goer 10 = .ok (.bipush 6, 2) := by decide +kernel
theorem dX4_goer_12 : decode cX4_goer 12 = .ok (.invokestatic 77, 3) := by decide +kernel
theorem dX4_goer_15 : decode cX4_goer 15 = .ok (.ifCond .eq 16, 3) := by decide +kernel
theorem dX4_goer_18 : decode cX4_goer 18 = .ok (.aload_n 0, 1) := by decide +kernel
theorem dX4_goer_19 : decode cX4_goer 19 = .ok (.aload_n 0, 1) := by decide +kernel
theorem dX4_goer_20 : decode cX4_goer 20 = .ok (.iload_n 1, 1) := by decide +kernel
theorem dX4_goer_21 : decode cX4_goer 21 = .ok (.iload_n 2, 1) := by decide +kernel
theorem dX4_goer_22 : decode cX4_goer 22 = .ok (.invokevirtual 146, 3) := by decide +kernel
theorem dX4_goer_25 : decode cX4_goer 25 = .ok (.invokevirtual 89, 3) := by decide +kernel
theorem dX4_goer_28 : decode cX4_goer 28 = .ok (.goto 4, 3) := by decide +kernel
theorem dX4_goer_31 : decode cX4_goer 31 = .ok (.iconst (-1), 1) := by decide +kernel
theorem dX4_goer_32 : decode cX4_goer 32 = .ok (.ireturn, 1) := by decide +kernel
theorem dX4_mark_0 : decode cX4_mark 0 = .ok (.aload_n 0, 1) := by decide +kernel
theorem dX4_mark_1 : decode cX4_mark 1 = .ok (.iload_n 1, 1) := by decide +kernel
theorem dX4_mark_2 : decode cX4_mark 2 = .ok (.invokevirtual 143, 3) := by decide +kernel
theorem dX4_mark_5 : decode cX4_mark 5 = .ok (.ifCond .eq 12, 3) := by decide +kernel
theorem dX4_mark_8 : decode cX4_mark 8 = .ok (.iload_n 2, 1) := by decide +kernel
