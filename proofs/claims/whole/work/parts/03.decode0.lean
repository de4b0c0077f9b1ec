theorem dX0_init_0 : decode cX0_init 0 = .ok (.aload_n 0, 1) := by decide +kernel
theorem dX0_init_1 : decode cX0_init 1 = .ok (.invokespecial 3, 3) := by decide +kernel
theorem dX0_init_4 : decode cX0_init 4 = .ok (.aload_n 0, 1) := by decide +kernel
theorem dX0_init_5 : decode cX0_init 5 = .ok (.bipush 7, 2) := by decide +kernel
theorem dX0_init_7 : decode cX0_init 7 = .ok (.newarray .int, 2) := by decide +kernel
theorem dX0_init_9 : decode cX0_init 9 = .ok (.putfield 9, 3) := by decide +kernel
theorem dX0_init_12 : decode cX0_init 12 = .ok (.aload_n 0, 1) := by decide +kernel
theorem dX0_init_13 : decode cX0_init 13 = .ok (.bipush 7, 2) := by decide +kernel
theorem dX0_init_15 : decode cX0_init 15 = .ok (.newarray .int, 2) := by decide +kernel
theorem dX0_init_17 : decode cX0_init 17 = .ok (.putfield 15, 3) := by decide +kernel
theorem dX0_init_20 : decode cX0_init 20 = .ok (.aload_n 0, 1) := by decide +kernel
theorem dX0_init_21 : decode cX0_init 21 = .ok (.bipush 7, 2) := by decide +kernel
theorem dX0_init_23 : decode cX0_init 23 = .ok (.newarray .int, 2) := by decide +kernel
theorem dX0_init_25 : decode cX0_init 25 = .ok (.putfield 18, 3) := by decide +kernel
theorem dX0_init_28 : decode cX0_init 28 = .ok (.aload_n 0, 1) := by decide +kernel
theorem dX0_init_29 : decode cX0_init 29 = .ok (.bipush 7, 2) := by decide +kernel
theorem dX0_init_31 : decode cX0_init 31 = .ok (.newarray .int, 2) := by decide +kernel
theorem dX0_init_33 : decode cX0_init 33 = .ok (.putfield 21, 3) := by decide +kernel
theorem dX0_init_36 : decode cX0_init 36 = .ok (.aload_n 0, 1) := by decide +kernel
theorem dX0_init_37 : decode cX0_init 37 = .ok (.bipush 6, 2) := by decide +kernel
theorem dX0_init_39 : decode cX0_init 39 = .ok (.newarray .int, 2) := by decide +kernel
theorem dX0_init_41 : decode cX0_init 41 = .ok (.putfield 24, 3) := by decide +kernel
theorem dX0_init_44 : decode cX0_init 44 = .ok (.aload_n 0, 1) := by decide +kernel
theorem dX0_init_45 : decode cX0_init 45 = .ok (.bipush 40, 2) := by decide +kernel
theorem dX0_init_47 : decode cX0_init 47 = .ok (.newarray .int, 2) := by decide +kernel
theorem dX0_init_49 : decode cX0_init 49 = .ok (.putfield 27, 3) := by decide +kernel
theorem dX0_init_52 : decode cX0_init 52 = .ok (.aload_n 0, 1) := by decide +kernel
theorem dX0_init_53 : decode cX0_init 53 = .ok (.iconst 0, 1) := by decide +kernel
theorem dX0_init_54 : decode cX0_init 54 = .ok (.putfield 30, 3) := by decide +kernel
theorem dX0_init_57 : decode cX0_init 57 = .ok (.aload_n 0, 1) := by decide +kernel
theorem dX0_init_58 : decode cX0_init 58 = .ok (.iconst 0, 1) := by decide +kernel
theorem dX0_init_59 : decode cX0_init 59 = .ok (.putfield 34, 3) := by decide +kernel
theorem dX0_init_62 : decode cX0_init 62 = .ok (.aload_n 0, 1) := by decide +kernel
theorem dX0_init_63 : decode cX0_init 63 = .ok (.iconst 0, 1) := by decide +kernel
theorem dX0_init_64 : decode cX0_init 64 = .ok (.putfield 37, 3) := by decide +kernel
theorem dX0_init_67 : decode cX0_init 67 = .ok (.aload_n 0, 1) := by decide +kernel
theorem dX0_init_68 : decode cX0_init 68 = .ok (.bipush (-9), 2) := by decide +kernel
theorem dX0_init_70 : decode cX0_init 70 = .ok (.putfield 40, 3) := by decide +kernel
theorem dX0_init_73 : decode cX0_init 73 = .ok (.aload_n 0, 1) := by decide +kernel
theorem dX0_init_74 : decode cX0_init 74 = .ok (.iconst 0, 1) := by decide +kernel
theorem dX0_init_75 : decode cX0_init 75 = .ok (.putfield 43, 3) := by decide +kernel
theorem dX0_init_78 : decode cX0_init 78 = .ok (.return_, 1) := by decide +kernel
theorem dX0_numbers_0 : decode cX0_numbers 0 = .ok (.iload_n 1, 1) := by decide +kernel
theorem dX0_numbers_1 : decode cX0_numbers 1 = .ok (.ifCond .lt 15, 3) := by decide +kernel
theorem dX0_numbers_4 : decode cX0_numbers 4 = .ok (.iload_n 1, 1) := by decide +kernel
theorem dX0_numbers_5 : decode cX0_numbers 5 = .ok (.aload_n 0, 1) := by decide +kernel
theorem dX0_numbers_6 : decode cX0_numbers 6 = .ok (.getfield 30, 3) := by decide +kernel
theorem dX0_numbers_9 : decode cX0_numbers 9 = .ok (.if_icmp .ge 7, 3) := by decide +kernel
theorem dX0_numbers_12 : decode cX0_numbers 12 = .ok (.iconst 1, 1) := by decide +kernel
theorem dX0_numbers_13 : decode cX0_numbers 13 = .ok (.goto 4, 3) := by decide +kernel
theorem dX0_numbers_16 : decode cX0_numbers 16 = .ok (.iconst 0, 1) := by decide +kernel
theorem dX0_numbers_17 : decode cX0_numbers 17 = .ok (.ireturn, 1) := by decide +kernel
theorem dX0_holds_0 : decode cX0_holds 0 = .ok (.iload_n 1, 1) := by decide +kernel
theorem dX0_holds_1 : decode cX0_holds 1 = .ok (.ifCond .lt 17, 3) := by decide +kernel
theorem dX0_holds_4 : decode cX0_holds 4 = .ok (.iload_n 1, 1) := by decide +kernel
theorem dX0_holds_5 : decode cX0_holds 5 = .ok (.iconst 1, 1) := by decide +kernel
theorem dX0_holds_6 : decode cX0_holds 6 = .ok (.aload_n 0, 1) := by decide +kernel
theorem dX0_holds_7 : decode cX0_holds 7 = .ok (.getfield 30, 3) := by decide +kernel
theorem dX0_holds_10 : decode cX0_holds 10 = .ok (.ishl, 1) := by decide +kernel
theorem dX0_holds_11 : decode cX0_holds 11 = .ok (.if_icmp .ge 7, 3) := by decide +kernel
theorem dX0_holds_14 : decode cX0_holds 14 = .ok (.iconst 1, 1) := by decide +kernel
theorem dX0_holds_15 : decode cX0_holds 15 = .ok (.goto 4, 3) := by decide +kernel
theorem dX0_holds_18 : decode cX0_holds 18 = .ok (.iconst 0, 1) := by decide +kernel
theorem dX0_holds_19 : decode cX0_holds 19 = .ok (.ireturn, 1) := by decide +kernel
theorem dX0_left_0 : decode cX0_left 0 = .ok (.iconst 1, 1) := by decide +kernel
theorem dX0_left_1 : decode cX0_left 1 = .ok (.aload_n 0, 1) := by decide +kernel
theorem dX0_left_2 : decode cX0_left 2 = .ok (.getfield 30, 3) := by decide +kernel
theorem dX0_left_5 : decode cX0_left 5 = .ok (.ishl, 1) := by decide +kernel
theorem dX0_left_6 : decode cX0_left 6 = .ok (.iconst 1, 1) := by decide +kernel
theorem dX0_left_7 : decode cX0_left 7 = .ok (.isub, 1) := by decide +kernel
theorem dX0_left_8 : decode cX0_left 8 = .ok (.aload_n 0, 1) := by decide +kernel
theorem dX0_left_9 : decode cX0_left 9 = .ok (.getfield 37, 3) := by decide +kernel
theorem dX0_left_12 : decode cX0_left 12 = .ok (.iconst (-1), 1) := by decide +kernel
theorem dX0_left_13 : decode cX0_left 13 = .ok (.ixor, 1) := by decide +kernel
theorem dX0_left_14 : decode cX0_left 14 = .ok (.iand, 1) := by decide +kernel
theorem dX0_left_15 : decode cX0_left 15 = .ok (.ireturn, 1) := by decide +kernel
theorem dX0_waits_0 : decode cX0_waits 0 = .ok (.aload_n 0, 1) := by decide +kernel
theorem dX0_waits_1 : decode cX0_waits 1 = .ok (.getfield 37, 3) := by decide +kernel
theorem dX0_waits_4 : decode cX0_waits 4 = .ok (.iload_n 1, 1) := by decide +kernel
theorem dX0_waits_5 : decode cX0_waits 5 = .ok (.invokestatic 46, 3) := by decide +kernel
theorem dX0_waits_8 : decode cX0_waits 8 = .ok (.ifCond .ne 7, 3) := by decide +kernel
theorem dX0_waits_11 : decode cX0_waits 11 = .ok (.iconst 1, 1) := by decide +kernel
theorem dX0_waits_12 : decode cX0_waits 12 = .ok (.goto 4, 3) := by decide +kernel
theorem dX0_waits_15 : decode cX0_waits 15 = .ok (.iconst 0, 1) := by decide +kernel
theorem dX0_waits_16 : decode cX0_waits 16 = .ok (.ireturn, 1) := by decide +kernel
theorem dX0_canMeet_0 : decode cX0_canMeet 0 = .ok (.iload_n 1, 1) := by decide +kernel
theorem dX0_canMeet_1 : decode cX0_canMeet 1 = .ok (.iload_n 2, 1) := by decide +kernel
theorem dX0_canMeet_2 : decode cX0_canMeet 2 = .ok (.if_icmp .eq 23, 3) := by decide +kernel
theorem dX0_canMeet_5 : decode cX0_canMeet 5 = .ok (.aload_n 0, 1) := by decide +kernel
theorem dX0_canMeet_6 : decode cX0_canMeet 6 = .ok (.iload_n 1, 1) := by decide +kernel
theorem dX0_canMeet_7 : decode cX0_canMeet 7 = .ok (.invokevirtual 50, 3) := by decide +kernel
theorem dX0_canMeet_10 : decode cX0_canMeet 10 = .ok (.ifCond .eq 15, 3) := by decide +kernel
theorem dX0_canMeet_13 : decode cX0_canMeet 13 = .ok (.aload_n 0, 1) := by decide +kernel
theorem dX0_canMeet_14 : decode cX0_canMeet 14 = .ok (.iload_n 2, 1) := by decide +kernel
theorem dX0_canMeet_15 : decode cX0_canMeet 15 = .ok (.invokevirtual 50, 3) := by decide +kernel
theorem dX0_canMeet_18 : decode cX0_canMeet 18 = .ok (.ifCond .eq 7, 3) := by decide +kernel
theorem dX0_canMeet_21 : decode cX0_canMeet 21 = .ok (.iconst 1, 1) := by decide +kernel
theorem dX0_canMeet_22 : decode cX0_canMeet 22 = .ok (.goto 4, 3) := by decide +kernel
theorem dX0_canMeet_25 : decode cX0_canMeet 25 = .ok (.iconst 0, 1) := by decide +kernel
theorem dX0_canMeet_26 : decode cX0_canMeet 26 = .ok (.ireturn, 1) := by decide +kernel
theorem dX0_spare_0 : decode cX0_spare 0 = .ok (.bipush 40, 2) := by decide +kernel
theorem dX0_spare_2 : decode cX0_spare 2 = .ok (.aload_n 0, 1) := by decide +kernel
theorem dX0_spare_3 : decode cX0_spare 3 = .ok (.getfield 34, 3) := by decide +kernel
theorem dX0_spare_6 : decode cX0_spare 6 = .ok (.isub, 1) := by decide +kernel
theorem dX0_spare_7 : decode cX0_spare 7 = .ok (.ireturn, 1) := by decide +kernel
theorem dX0_gather_0 : decode cX0_gather 0 = .ok (.aload_n 0, 1) := by decide +kernel
theorem dX0_gather_1 : decode cX0_gather 1 = .ok (.iconst 0, 1) := by decide +kernel
theorem dX0_gather_2 : decode cX0_gather 2 = .ok (.putfield 30, 3) := by decide +kernel
theorem dX0_gather_5 : decode cX0_gather 5 = .ok (.aload_n 0, 1) := by decide +kernel
theorem dX0_gather_6 : decode cX0_gather 6 = .ok (.getfield 24, 3) := by decide +kernel
theorem dX0_gather_9 : decode cX0_gather 9 = .ok (.iconst 0, 1) := by decide +kernel
theorem dX0_gather_10 : decode cX0_gather 10 = .ok (.invokestatic 54, 3) := by decide +kernel
theorem dX0_gather_13 : decode cX0_gather 13 = .ok (.iconst 0, 1) := by decide +kernel
theorem dX0_gather_14 : decode cX0_gather 14 = .ok (.istore_n 3, 1) := by decide +kernel
theorem dX0_gather_15 : decode cX0_gather 15 = .ok (.iload_n 3, 1) := by decide +kernel
theorem dX0_gather_16 : decode cX0_gather 16 = .ok (.iconst 2, 1) := by decide +kernel
theorem dX0_gather_17 : decode cX0_gather 17 = .ok (.iadd, 1) := by decide +kernel
theorem dX0_gather_18 : decode cX0_gather 18 = .ok (.iload_n 2, 1) := by decide +kernel
theorem dX0_gather_19 : decode cX0_gather 19 = .ok (.if_icmp .ge 112, 3) := by decide +kernel
theorem dX0_gather_22 : decode cX0_gather 22 = .ok (.aload_n 0, 1) := by decide +kernel
theorem dX0_gather_23 : decode cX0_gather 23 = .ok (.getfield 30, 3) := by decide +kernel
theorem dX0_gather_26 : decode cX0_gather 26 = .ok (.bipush 7, 2) := by decide +kernel
theorem dX0_gather_28 : decode cX0_gather 28 = .ok (.if_icmp .ge 103, 3) := by decide +kernel
theorem dX0_gather_31 : decode cX0_gather 31 = .ok (.aload_n 1, 1) := by decide +kernel
theorem dX0_gather_32 : decode cX0_gather 32 = .ok (.iload_n 3, 1) := by decide +kernel
theorem dX0_gather_33 : decode cX0_gather 33 = .ok (.iaload, 1) := by decide +kernel
theorem dX0_gather_34 : decode cX0_gather 34 = .ok (.invokestatic 60, 3) := by decide +kernel
theorem dX0_gather_37 : decode cX0_gather 37 = .ok (.istore 4, 2) := by decide +kernel
theorem dX0_gather_39 : decode cX0_gather 39 = .ok (.iload 4, 2) := by decide +kernel
theorem dX0_gather_41 : decode cX0_gather 41 = .ok (.bipush (-9), 2) := by decide +kernel
theorem dX0_gather_43 : decode cX0_gather 43 = .ok (.if_icmp .ne 9, 3) := by decide +kernel
theorem dX0_gather_46 : decode cX0_gather 46 = .ok (.iinc 3 1, 3) := by decide +kernel
theorem dX0_gather_49 : decode cX0_gather 49 = .ok (.goto 79, 3) := by decide +kernel
theorem dX0_gather_52 : decode cX0_gather 52 = .ok (.aload_n 0, 1) := by decide +kernel
theorem dX0_gather_53 : decode cX0_gather 53 = .ok (.getfield 9, 3) := by decide +kernel
theorem dX0_gather_56 : decode cX0_gather 56 = .ok (.aload_n 0, 1) := by decide +kernel
theorem dX0_gather_57 : decode cX0_gather 57 = .ok (.getfield 30, 3) := by decide +kernel
theorem dX0_gather_60 : decode cX0_gather 60 = .ok (.iload 4, 2) := by decide +kernel
theorem dX0_gather_62 : decode cX0_gather 62 = .ok (.iastore, 1) := by decide +kernel
theorem dX0_gather_63 : decode cX0_gather 63 = .ok (.aload_n 0, 1) := by decide +kernel
theorem dX0_gather_64 : decode cX0_gather 64 = .ok (.getfield 15, 3) := by decide +kernel
theorem dX0_gather_67 : decode cX0_gather 67 = .ok (.aload_n 0, 1) := by decide +kernel
theorem dX0_gather_68 : decode cX0_gather 68 = .ok (.getfield 30, 3) := by decide +kernel
theorem dX0_gather_71 : decode cX0_gather 71 = .ok (.aload_n 1, 1) := by decide +kernel
theorem dX0_gather_72 : decode cX0_gather 72 = .ok (.iload_n 3, 1) := by decide +kernel
theorem dX0_gather_73 : decode cX0_gather 73 = .ok (.iconst 1, 1) := by decide +kernel
theorem dX0_gather_74 : decode cX0_gather 74 = .ok (.iadd, 1) := by decide +kernel
theorem dX0_gather_75 : decode cX0_gather 75 = .ok (.iaload, 1) := by decide +kernel
theorem dX0_gather_76 : decode cX0_gather 76 = .ok (.bipush 48, 2) := by decide +kernel
theorem dX0_gather_78 : decode cX0_gather 78 = .ok (.isub, 1) := by decide +kernel
theorem dX0_gather_79 : decode cX0_gather 79 = .ok (.iastore, 1) := by decide +kernel
theorem dX0_gather_80 : decode cX0_gather 80 = .ok (.aload_n 0, 1) := by decide +kernel
theorem dX0_gather_81 : decode cX0_gather 81 = .ok (.getfield 18, 3) := by decide +kernel
theorem dX0_gather_84 : decode cX0_gather 84 = .ok (.aload_n 0, 1) := by decide +kernel
theorem dX0_gather_85 : decode cX0_gather 85 = .ok (.getfield 30, 3) := by decide +kernel
theorem dX0_gather_88 : decode cX0_gather 88 = .ok (.iconst 1, 1) := by decide +kernel
theorem dX0_gather_89 : decode cX0_gather 89 = .ok (.aload_n 1, 1) := by decide +kernel
theorem dX0_gather_90 : decode cX0_gather 90 = .ok (.iload_n 3, 1) := by decide +kernel
theorem dX0_gather_91 : decode cX0_gather 91 = .ok (.iconst 2, 1) := by decide +kernel
theorem dX0_gather_92 : decode cX0_gather 92 = .ok (.iadd, 1) := by decide +kernel
theorem dX0_gather_93 : decode cX0_gather 93 = .ok (.iaload, 1) := by decide +kernel
theorem dX0_gather_94 : decode cX0_gather 94 = .ok (.bipush 48, 2) := by decide +kernel
theorem dX0_gather_96 : decode cX0_gather 96 = .ok (.isub, 1) := by decide +kernel
theorem dX0_gather_97 : decode cX0_gather 97 = .ok (.ishl, 1) := by decide +kernel
theorem dX0_gather_98 : decode cX0_gather 98 = .ok (.iastore, 1) := by decide +kernel
theorem dX0_gather_99 : decode cX0_gather 99 = .ok (.aload_n 0, 1) := by decide +kernel
theorem dX0_gather_100 : decode cX0_gather 100 = .ok (.getfield 24, 3) := by decide +kernel
theorem dX0_gather_103 : decode cX0_gather 103 = .ok (.iload 4, 2) := by decide +kernel
theorem dX0_gather_105 : decode cX0_gather 105 = .ok (.dup2, 1) := by decide +kernel
theorem dX0_gather_106 : decode cX0_gather 106 = .ok (.iaload, 1) := by decide +kernel
theorem dX0_gather_107 : decode cX0_gather 107 = .ok (.iconst 1, 1) := by decide +kernel
theorem dX0_gather_108 : decode cX0_gather 108 = .ok (.aload_n 0, 1) := by decide +kernel
theorem dX0_gather_109 : decode cX0_gather 109 = .ok (.getfield 30, 3) := by decide +kernel
theorem dX0_gather_112 : decode cX0_gather 112 = .ok (.ishl, 1) := by decide +kernel
theorem dX0_gather_113 : decode cX0_gather 113 = .ok (.ior, 1) := by decide +kernel
theorem dX0_gather_114 : decode cX0_gather 114 = .ok (.iastore, 1) := by decide +kernel
theorem dX0_gather_115 : decode cX0_gather 115 = .ok (.aload_n 0, 1) := by decide +kernel
theorem dX0_gather_116 : decode cX0_gather 116 = .ok (.dup, 1) := by decide +kernel
theorem dX0_gather_117 : decode cX0_gather 117 = .ok (.getfield 30, 3) := by decide +kernel
theorem dX0_gather_120 : decode cX0_gather 120 = .ok (.iconst 1, 1) := by decide +kernel
theorem dX0_gather_121 : decode cX0_gather 121 = .ok (.iadd, 1) := by decide +kernel
theorem dX0_gather_122 : decode cX0_gather 122 = .ok (.putfield 30, 3) := by decide +kernel
theorem dX0_gather_125 : decode cX0_gather 125 = .ok (.iinc 3 3, 3) := by decide +kernel
theorem dX0_gather_128 : decode cX0_gather 128 = .ok (.goto (-113), 3) := by decide +kernel
theorem dX0_gather_131 : decode cX0_gather 131 = .ok (.iconst 0, 1) := by decide +kernel
theorem dX0_gather_132 : decode cX0_gather 132 = .ok (.istore 4, 2) := by decide +kernel
theorem dX0_gather_134 : decode cX0_gather 134 = .ok (.iload 4, 2) := by decide +kernel
theorem dX0_gather_136 : decode cX0_gather 136 = .ok (.aload_n 0, 1) := by decide +kernel
theorem dX0_gather_137 : decode cX0_gather 137 = .ok (.getfield 30, 3) := by decide +kernel
theorem dX0_gather_140 : decode cX0_gather 140 = .ok (.if_icmp .ge 34, 3) := by decide +kernel
theorem dX0_gather_143 : decode cX0_gather 143 = .ok (.aload_n 0, 1) := by decide +kernel
theorem dX0_gather_144 : decode cX0_gather 144 = .ok (.getfield 18, 3) := by decide +kernel
theorem dX0_gather_147 : decode cX0_gather 147 = .ok (.iload 4, 2) := by decide +kernel
theorem dX0_gather_149 : decode cX0_gather 149 = .ok (.dup2, 1) := by decide +kernel
theorem dX0_gather_150 : decode cX0_gather 150 = .ok (.iaload, 1) := by decide +kernel
theorem dX0_gather_151 : decode cX0_gather 151 = .ok (.iconst 1, 1) := by decide +kernel
theorem dX0_gather_152 : decode cX0_gather 152 = .ok (.aload_n 0, 1) := by decide +kernel
theorem dX0_gather_153 : decode cX0_gather 153 = .ok (.getfield 30, 3) := by decide +kernel
theorem dX0_gather_156 : decode cX0_gather 156 = .ok (.ishl, 1) := by decide +kernel
theorem dX0_gather_157 : decode cX0_gather 157 = .ok (.iconst 1, 1) := by decide +kernel
theorem dX0_gather_158 : decode cX0_gather 158 = .ok (.isub, 1) := by decide +kernel
theorem dX0_gather_159 : decode cX0_gather 159 = .ok (.iconst 1, 1) := by decide +kernel
theorem dX0_gather_160 : decode cX0_gather 160 = .ok (.iload 4, 2) := by decide +kernel
theorem dX0_gather_162 : decode cX0_gather 162 = .ok (.ishl, 1) := by decide +kernel
theorem dX0_gather_163 : decode cX0_gather 163 = .ok (.iconst (-1), 1) := by decide +kernel
theorem dX0_gather_164 : decode cX0_gather 164 = .ok (.ixor, 1) := by decide +kernel
theorem dX0_gather_165 : decode cX0_gather 165 = .ok (.iand, 1) := by decide +kernel
theorem dX0_gather_166 : decode cX0_gather 166 = .ok (.iand, 1) := by decide +kernel
theorem dX0_gather_167 : decode cX0_gather 167 = .ok (.iastore, 1) := by decide +kernel
theorem dX0_gather_168 : decode cX0_gather 168 = .ok (.iinc 4 1, 3) := by decide +kernel
theorem dX0_gather_171 : decode cX0_gather 171 = .ok (.goto (-37), 3) := by decide +kernel
theorem dX0_gather_174 : decode cX0_gather 174 = .ok (.aload_n 0, 1) := by decide +kernel
theorem dX0_gather_175 : decode cX0_gather 175 = .ok (.iconst 0, 1) := by decide +kernel
theorem dX0_gather_176 : decode cX0_gather 176 = .ok (.putfield 34, 3) := by decide +kernel
theorem dX0_gather_179 : decode cX0_gather 179 = .ok (.aload_n 0, 1) := by decide +kernel
theorem dX0_gather_180 : decode cX0_gather 180 = .ok (.invokevirtual 64, 3) := by decide +kernel
theorem dX0_gather_183 : decode cX0_gather 183 = .ok (.return_, 1) := by decide +kernel
theorem dX0_startAnew_0 : decode cX0_startAnew 0 = .ok (.aload_n 0, 1) := by decide +kernel
theorem dX0_startAnew_1 : decode cX0_startAnew 1 = .ok (.getfield 18, 3) := by decide +kernel
theorem dX0_startAnew_4 : decode cX0_startAnew 4 = .ok (.iconst 0, 1) := by decide +kernel
theorem dX0_startAnew_5 : decode cX0_startAnew 5 = .ok (.aload_n 0, 1) := by decide +kernel
theorem dX0_startAnew_6 : decode cX0_startAnew 6 = .ok (.getfield 21, 3) := by decide +kernel
theorem dX0_startAnew_9 : decode cX0_startAnew 9 = .ok (.iconst 0, 1) := by decide +kernel
theorem dX0_startAnew_10 : decode cX0_startAnew 10 = .ok (.bipush 7, 2) := by decide +kernel
theorem dX0_startAnew_12 : decode cX0_startAnew 12 = .ok (.invokestatic 67, 3) := by decide +kernel
theorem dX0_startAnew_15 : decode cX0_startAnew 15 = .ok (.aload_n 0, 1) := by decide +kernel
theorem dX0_startAnew_16 : decode cX0_startAnew 16 = .ok (.iconst 0, 1) := by decide +kernel
theorem dX0_startAnew_17 : decode cX0_startAnew 17 = .ok (.putfield 37, 3) := by decide +kernel
theorem dX0_startAnew_20 : decode cX0_startAnew 20 = .ok (.aload_n 0, 1) := by decide +kernel
theorem dX0_startAnew_21 : decode cX0_startAnew 21 = .ok (.bipush (-9), 2) := by decide +kernel
theorem dX0_startAnew_23 : decode cX0_startAnew 23 = .ok (.putfield 40, 3) := by decide +kernel
theorem dX0_startAnew_26 : decode cX0_startAnew 26 = .ok (.aload_n 0, 1) := by decide +kernel
theorem dX0_startAnew_27 : decode cX0_startAnew 27 = .ok (.iconst 0, 1) := by decide +kernel
theorem dX0_startAnew_28 : decode cX0_startAnew 28 = .ok (.putfield 43, 3) := by decide +kernel
theorem dX0_startAnew_31 : decode cX0_startAnew 31 = .ok (.return_, 1) := by decide +kernel
theorem dX0_doAgain_0 : decode cX0_doAgain 0 = .ok (.aload_n 0, 1) := by decide +kernel
theorem dX0_doAgain_1 : decode cX0_doAgain 1 = .ok (.invokevirtual 64, 3) := by decide +kernel
theorem dX0_doAgain_4 : decode cX0_doAgain 4 = .ok (.aload_n 0, 1) := by decide +kernel
theorem dX0_doAgain_5 : decode cX0_doAgain 5 = .ok (.iconst 0, 1) := by decide +kernel
theorem dX0_doAgain_6 : decode cX0_doAgain 6 = .ok (.putfield 34, 3) := by decide +kernel
theorem dX0_doAgain_9 : decode cX0_doAgain 9 = .ok (.iconst 0, 1) := by decide +kernel
theorem dX0_doAgain_10 : decode cX0_doAgain 10 = .ok (.istore_n 3, 1) := by decide +kernel
theorem dX0_doAgain_11 : decode cX0_doAgain 11 = .ok (.iload_n 3, 1) := by decide +kernel
theorem dX0_doAgain_12 : decode cX0_doAgain 12 = .ok (.iload_n 2, 1) := by decide +kernel
theorem dX0_doAgain_13 : decode cX0_doAgain 13 = .ok (.if_icmp .ge 42, 3) := by decide +kernel
theorem dX0_doAgain_16 : decode cX0_doAgain 16 = .ok (.iload_n 3, 1) := by decide +kernel
theorem dX0_doAgain_17 : decode cX0_doAgain 17 = .ok (.aload_n 1, 1) := by decide +kernel
theorem dX0_doAgain_18 : decode cX0_doAgain 18 = .ok (.arraylength, 1) := by decide +kernel
theorem dX0_doAgain_19 : decode cX0_doAgain 19 = .ok (.if_icmp .ge 36, 3) := by decide +kernel
theorem dX0_doAgain_22 : decode cX0_doAgain 22 = .ok (.aload_n 1, 1) := by decide +kernel
theorem dX0_doAgain_23 : decode cX0_doAgain 23 = .ok (.iload_n 3, 1) := by decide +kernel
theorem dX0_doAgain_24 : decode cX0_doAgain 24 = .ok (.iaload, 1) := by decide +kernel
theorem dX0_doAgain_25 : decode cX0_doAgain 25 = .ok (.istore 4, 2) := by decide +kernel
theorem dX0_doAgain_27 : decode cX0_doAgain 27 = .ok (.aload_n 0, 1) := by decide +kernel
theorem dX0_doAgain_28 : decode cX0_doAgain 28 = .ok (.iload 4, 2) := by decide +kernel
theorem dX0_doAgain_30 : decode cX0_doAgain 30 = .ok (.bipush 100, 2) := by decide +kernel
theorem dX0_doAgain_32 : decode cX0_doAgain 32 = .ok (.idiv, 1) := by decide +kernel
theorem dX0_doAgain_33 : decode cX0_doAgain 33 = .ok (.iload 4, 2) := by decide +kernel
theorem dX0_doAgain_35 : decode cX0_doAgain 35 = .ok (.bipush 10, 2) := by decide +kernel
theorem dX0_doAgain_37 : decode cX0_doAgain 37 = .ok (.idiv, 1) := by decide +kernel
theorem dX0_doAgain_38 : decode cX0_doAgain 38 = .ok (.bipush 10, 2) := by decide +kernel
theorem dX0_doAgain_40 : decode cX0_doAgain 40 = .ok (.irem, 1) := by decide +kernel
theorem dX0_doAgain_41 : decode cX0_doAgain 41 = .ok (.iload 4, 2) := by decide +kernel
theorem dX0_doAgain_43 : decode cX0_doAgain 43 = .ok (.bipush 10, 2) := by decide +kernel
theorem dX0_doAgain_45 : decode cX0_doAgain 45 = .ok (.irem, 1) := by decide +kernel
theorem dX0_doAgain_46 : decode cX0_doAgain 46 = .ok (.invokevirtual 73, 3) := by decide +kernel
theorem dX0_doAgain_49 : decode cX0_doAgain 49 = .ok (.iinc 3 1, 3) := by decide +kernel
theorem dX0_doAgain_52 : decode cX0_doAgain 52 = .ok (.goto (-41), 3) := by decide +kernel
theorem dX0_doAgain_55 : decode cX0_doAgain 55 = .ok (.return_, 1) := by decide +kernel
theorem dX0_add_0 : decode cX0_add 0 = .ok (.aload_n 0, 1) := by decide +kernel
theorem dX0_add_1 : decode cX0_add 1 = .ok (.getfield 34, 3) := by decide +kernel
theorem dX0_add_4 : decode cX0_add 4 = .ok (.bipush 40, 2) := by decide +kernel
theorem dX0_add_6 : decode cX0_add 6 = .ok (.if_icmp .ge 19, 3) := by decide +kernel
theorem dX0_add_9 : decode cX0_add 9 = .ok (.aload_n 0, 1) := by decide +kernel
theorem dX0_add_10 : decode cX0_add 10 = .ok (.iload_n 2, 1) := by decide +kernel
theorem dX0_add_11 : decode cX0_add 11 = .ok (.invokevirtual 77, 3) := by decide +kernel
theorem dX0_add_14 : decode cX0_add 14 = .ok (.ifCond .eq 11, 3) := by decide +kernel
theorem dX0_add_17 : decode cX0_add 17 = .ok (.aload_n 0, 1) := by decide +kernel
theorem dX0_add_18 : decode cX0_add 18 = .ok (.iload_n 3, 1) := by decide +kernel
theorem dX0_add_19 : decode cX0_add 19 = .ok (.invokevirtual 77, 3) := by decide +kernel
theorem dX0_add_22 : decode cX0_add 22 = .ok (.ifCond .ne 4, 3) := by decide +kernel
theorem dX0_add_25 : decode cX0_add 25 = .ok (.return_, 1) := by decide +kernel
theorem dX0_add_26 : decode cX0_add 26 = .ok (.aload_n 0, 1) := by decide +kernel
theorem dX0_add_27 : decode cX0_add 27 = .ok (.getfield 27, 3) := by decide +kernel
theorem dX0_add_30 : decode cX0_add 30 = .ok (.aload_n 0, 1) := by decide +kernel
theorem dX0_add_31 : decode cX0_add 31 = .ok (.getfield 34, 3) := by decide +kernel
theorem dX0_add_34 : decode cX0_add 34 = .ok (.bipush 100, 2) := by decide +kernel
theorem dX0_add_36 : decode cX0_add 36 = .ok (.iload_n 1, 1) := by decide +kernel
theorem dX0_add_37 : decode cX0_add 37 = .ok (.imul, 1) := by decide +kernel
theorem dX0_add_38 : decode cX0_add 38 = .ok (.bipush 10, 2) := by decide +kernel
theorem dX0_add_40 : decode cX0_add 40 = .ok (.iload_n 2, 1) := by decide +kernel
theorem dX0_add_41 : decode cX0_add 41 = .ok (.imul, 1) := by decide +kernel
theorem dX0_add_42 : decode cX0_add 42 = .ok (.iadd, 1) := by decide +kernel
theorem dX0_add_43 : decode cX0_add 43 = .ok (.iload_n 3, 1) := by decide +kernel
theorem dX0_add_44 : decode cX0_add 44 = .ok (.iadd, 1) := by decide +kernel
theorem dX0_add_45 : decode cX0_add 45 = .ok (.iastore, 1) := by decide +kernel
theorem dX0_add_46 : decode cX0_add 46 = .ok (.aload_n 0, 1) := by decide +kernel
theorem dX0_add_47 : decode cX0_add 47 = .ok (.dup, 1) := by decide +kernel
theorem dX0_add_48 : decode cX0_add 48 = .ok (.getfield 34, 3) := by decide +kernel
theorem dX0_add_51 : decode cX0_add 51 = .ok (.iconst 1, 1) := by decide +kernel
theorem dX0_add_52 : decode cX0_add 52 = .ok (.iadd, 1) := by decide +kernel
theorem dX0_add_53 : decode cX0_add 53 = .ok (.putfield 34, 3) := by decide +kernel
theorem dX0_add_56 : decode cX0_add 56 = .ok (.iload_n 1, 1) := by decide +kernel
theorem dX0_add_57 : decode cX0_add 57 = .ok (.tableswitch 107 1 4 #[31, 48, 65, 87], 31) := by decide +kernel
theorem dX0_add_88 : decode cX0_add 88 = .ok (.aload_n 0, 1) := by decide +kernel
theorem dX0_add_89 : decode cX0_add 89 = .ok (.iload_n 2, 1) := by decide +kernel
theorem dX0_add_90 : decode cX0_add 90 = .ok (.iload_n 3, 1) := by decide +kernel
theorem dX0_add_91 : decode cX0_add 91 = .ok (.aload_n 0, 1) := by decide +kernel
theorem dX0_add_92 : decode cX0_add 92 = .ok (.getfield 21, 3) := by decide +kernel
theorem dX0_add_95 : decode cX0_add 95 = .ok (.aload_n 0, 1) := by decide +kernel
theorem dX0_add_96 : decode cX0_add 96 = .ok (.getfield 21, 3) := by decide +kernel
theorem dX0_add_99 : decode cX0_add 99 = .ok (.invokevirtual 80, 3) := by decide +kernel
theorem dX0_add_102 : decode cX0_add 102 = .ok (.goto 62, 3) := by decide +kernel
theorem dX0_add_105 : decode cX0_add 105 = .ok (.aload_n 0, 1) := by decide +kernel
theorem dX0_add_106 : decode cX0_add 106 = .ok (.dup, 1) := by decide +kernel
theorem dX0_add_107 : decode cX0_add 107 = .ok (.getfield 43, 3) := by decide +kernel
theorem dX0_add_110 : decode cX0_add 110 = .ok (.aload_n 0, 1) := by decide +kernel
theorem dX0_add_111 : decode cX0_add 111 = .ok (.iload_n 2, 1) := by decide +kernel
theorem dX0_add_112 : decode cX0_add 112 = .ok (.invokevirtual 84, 3) := by decide +kernel
theorem dX0_add_115 : decode cX0_add 115 = .ok (.ior, 1) := by decide +kernel
theorem dX0_add_116 : decode cX0_add 116 = .ok (.putfield 43, 3) := by decide +kernel
theorem dX0_add_119 : decode cX0_add 119 = .ok (.goto 45, 3) := by decide +kernel
theorem dX0_add_122 : decode cX0_add 122 = .ok (.aload_n 0, 1) := by decide +kernel
theorem dX0_add_123 : decode cX0_add 123 = .ok (.getfield 21, 3) := by decide +kernel
theorem dX0_add_126 : decode cX0_add 126 = .ok (.iload_n 2, 1) := by decide +kernel
theorem dX0_add_127 : decode cX0_add 127 = .ok (.dup2, 1) := by decide +kernel
theorem dX0_add_128 : decode cX0_add 128 = .ok (.iaload, 1) := by decide +kernel
theorem dX0_add_129 : decode cX0_add 129 = .ok (.aload_n 0, 1) := by decide +kernel
theorem dX0_add_130 : decode cX0_add 130 = .ok (.getfield 43, 3) := by decide +kernel
theorem dX0_add_133 : decode cX0_add 133 = .ok (.iconst 1, 1) := by decide +kernel
theorem dX0_add_134 : decode cX0_add 134 = .ok (.iload_n 2, 1) := by decide +kernel
theorem dX0_add_135 : decode cX0_add 135 = .ok (.ishl, 1) := by decide +kernel
theorem dX0_add_136 : decode cX0_add 136 = .ok (.iconst (-1), 1) := by decide +kernel
theorem dX0_add_137 : decode cX0_add 137 = .ok (.ixor, 1) := by decide +kernel
theorem dX0_add_138 : decode cX0_add 138 = .ok (.iand, 1) := by decide +kernel
theorem dX0_add_139 : decode cX0_add 139 = .ok (.ior, 1) := by decide +kernel
theorem dX0_add_140 : decode cX0_add 140 = .ok (.iastore, 1) := by decide +kernel
theorem dX0_add_141 : decode cX0_add 141 = .ok (.goto 23, 3) := by decide +kernel
theorem dX0_add_144 : decode cX0_add 144 = .ok (.aload_n 0, 1) := by decide +kernel
theorem dX0_add_145 : decode cX0_add 145 = .ok (.dup, 1) := by decide +kernel
theorem dX0_add_146 : decode cX0_add 146 = .ok (.getfield 37, 3) := by decide +kernel
theorem dX0_add_149 : decode cX0_add 149 = .ok (.iconst 1, 1) := by decide +kernel
theorem dX0_add_150 : decode cX0_add 150 = .ok (.iload_n 2, 1) := by decide +kernel
theorem dX0_add_151 : decode cX0_add 151 = .ok (.ishl, 1) := by decide +kernel
theorem dX0_add_152 : decode cX0_add 152 = .ok (.ior, 1) := by decide +kernel
theorem dX0_add_153 : decode cX0_add 153 = .ok (.putfield 37, 3) := by decide +kernel
theorem dX0_add_156 : decode cX0_add 156 = .ok (.aload_n 0, 1) := by decide +kernel
theorem dX0_add_157 : decode cX0_add 157 = .ok (.iload_n 2, 1) := by decide +kernel
theorem dX0_add_158 : decode cX0_add 158 = .ok (.putfield 40, 3) := by decide +kernel
theorem dX0_add_161 : decode cX0_add 161 = .ok (.goto 3, 3) := by decide +kernel
theorem dX0_add_164 : decode cX0_add 164 = .ok (.return_, 1) := by decide +kernel
theorem dX0_meetAside_0 : decode cX0_meetAside 0 = .ok (.aload_n 0, 1) := by decide +kernel
theorem dX0_meetAside_1 : decode cX0_meetAside 1 = .ok (.getfield 9, 3) := by decide +kernel
theorem dX0_meetAside_4 : decode cX0_meetAside 4 = .ok (.iload_n 1, 1) := by decide +kernel
theorem dX0_meetAside_5 : decode cX0_meetAside 5 = .ok (.iaload, 1) := by decide +kernel
theorem dX0_meetAside_6 : decode cX0_meetAside 6 = .ok (.iload_n 1, 1) := by decide +kernel
theorem dX0_meetAside_7 : decode cX0_meetAside 7 = .ok (.aload_n 3, 1) := by decide +kernel
theorem dX0_meetAside_8 : decode cX0_meetAside 8 = .ok (.iload_n 1, 1) := by decide +kernel
theorem dX0_meetAside_9 : decode cX0_meetAside 9 = .ok (.iaload, 1) := by decide +kernel
theorem dX0_meetAside_10 : decode cX0_meetAside 10 = .ok (.invokestatic 87, 3) := by decide +kernel
theorem dX0_meetAside_13 : decode cX0_meetAside 13 = .ok (.istore 5, 2) := by decide +kernel
theorem dX0_meetAside_15 : decode cX0_meetAside 15 = .ok (.aload_n 0, 1) := by decide +kernel
theorem dX0_meetAside_16 : decode cX0_meetAside 16 = .ok (.getfield 9, 3) := by decide +kernel
theorem dX0_meetAside_19 : decode cX0_meetAside 19 = .ok (.iload_n 2, 1) := by decide +kernel
theorem dX0_meetAside_20 : decode cX0_meetAside 20 = .ok (.iaload, 1) := by decide +kernel
theorem dX0_meetAside_21 : decode cX0_meetAside 21 = .ok (.iload_n 2, 1) := by decide +kernel
theorem dX0_meetAside_22 : decode cX0_meetAside 22 = .ok (.aload_n 3, 1) := by decide +kernel
theorem dX0_meetAside_23 : decode cX0_meetAside 23 = .ok (.iload_n 2, 1) := by decide +kernel
theorem dX0_meetAside_24 : decode cX0_meetAside 24 = .ok (.iaload, 1) := by decide +kernel
theorem dX0_meetAside_25 : decode cX0_meetAside 25 = .ok (.invokestatic 87, 3) := by decide +kernel
theorem dX0_meetAside_28 : decode cX0_meetAside 28 = .ok (.istore 6, 2) := by decide +kernel
theorem dX0_meetAside_30 : decode cX0_meetAside 30 = .ok (.aload_n 3, 1) := by decide +kernel
theorem dX0_meetAside_31 : decode cX0_meetAside 31 = .ok (.iconst 0, 1) := by decide +kernel
theorem dX0_meetAside_32 : decode cX0_meetAside 32 = .ok (.aload 4, 2) := by decide +kernel
theorem dX0_meetAside_34 : decode cX0_meetAside 34 = .ok (.iconst 0, 1) := by decide +kernel
theorem dX0_meetAside_35 : decode cX0_meetAside 35 = .ok (.bipush 7, 2) := by decide +kernel
theorem dX0_meetAside_37 : decode cX0_meetAside 37 = .ok (.invokestatic 67, 3) := by decide +kernel
theorem dX0_meetAside_40 : decode cX0_meetAside 40 = .ok (.aload 4, 2) := by decide +kernel
theorem dX0_meetAside_42 : decode cX0_meetAside 42 = .ok (.iload_n 1, 1) := by decide +kernel
theorem dX0_meetAside_43 : decode cX0_meetAside 43 = .ok (.dup2, 1) := by decide +kernel
theorem dX0_meetAside_44 : decode cX0_meetAside 44 = .ok (.iaload, 1) := by decide +kernel
theorem dX0_meetAside_45 : decode cX0_meetAside 45 = .ok (.iload 6, 2) := by decide +kernel
theorem dX0_meetAside_47 : decode cX0_meetAside 47 = .ok (.iconst 1, 1) := by decide +kernel
theorem dX0_meetAside_48 : decode cX0_meetAside 48 = .ok (.iload_n 1, 1) := by decide +kernel
theorem dX0_meetAside_49 : decode cX0_meetAside 49 = .ok (.ishl, 1) := by decide +kernel
theorem dX0_meetAside_50 : decode cX0_meetAside 50 = .ok (.iconst (-1), 1) := by decide +kernel
theorem dX0_meetAside_51 : decode cX0_meetAside 51 = .ok (.ixor, 1) := by decide +kernel
theorem dX0_meetAside_52 : decode cX0_meetAside 52 = .ok (.iand, 1) := by decide +kernel
theorem dX0_meetAside_53 : decode cX0_meetAside 53 = .ok (.ior, 1) := by decide +kernel
theorem dX0_meetAside_54 : decode cX0_meetAside 54 = .ok (.iastore, 1) := by decide +kernel
theorem dX0_meetAside_55 : decode cX0_meetAside 55 = .ok (.aload 4, 2) := by decide +kernel
theorem dX0_meetAside_57 : decode cX0_meetAside 57 = .ok (.iload_n 2, 1) := by decide +kernel
theorem dX0_meetAside_58 : decode cX0_meetAside 58 = .ok (.dup2, 1) := by decide +kernel
theorem dX0_meetAside_59 : decode cX0_meetAside 59 = .ok (.iaload, 1) := by decide +kernel
theorem dX0_meetAside_60 : decode cX0_meetAside 60 = .ok (.iload 5, 2) := by decide +kernel
theorem dX0_meetAside_62 : decode cX0_meetAside 62 = .ok (.iconst 1, 1) := by decide +kernel
theorem dX0_meetAside_63 : decode cX0_meetAside 63 = .ok (.iload_n 2, 1) := by decide +kernel
theorem dX0_meetAside_64 : decode cX0_meetAside 64 = .ok (.ishl, 1) := by decide +kernel
theorem dX0_meetAside_65 : decode cX0_meetAside 65 = .ok (.iconst (-1), 1) := by decide +kernel
theorem dX0_meetAside_66 : decode cX0_meetAside 66 = .ok (.ixor, 1) := by decide +kernel
theorem dX0_meetAside_67 : decode cX0_meetAside 67 = .ok (.iand, 1) := by decide +kernel
theorem dX0_meetAside_68 : decode cX0_meetAside 68 = .ok (.ior, 1) := by decide +kernel
theorem dX0_meetAside_69 : decode cX0_meetAside 69 = .ok (.iastore, 1) := by decide +kernel
theorem dX0_meetAside_70 : decode cX0_meetAside 70 = .ok (.return_, 1) := by decide +kernel
theorem dX0_tellings_0 : decode cX0_tellings 0 = .ok (.iconst 0, 1) := by decide +kernel
theorem dX0_tellings_1 : decode cX0_tellings 1 = .ok (.istore_n 1, 1) := by decide +kernel
theorem dX0_tellings_2 : decode cX0_tellings 2 = .ok (.iconst 0, 1) := by decide +kernel
theorem dX0_tellings_3 : decode cX0_tellings 3 = .ok (.istore_n 2, 1) := by decide +kernel
theorem dX0_tellings_4 : decode cX0_tellings 4 = .ok (.iload_n 2, 1) := by decide +kernel
theorem dX0_tellings_5 : decode cX0_tellings 5 = .ok (.aload_n 0, 1) := by decide +kernel
theorem dX0_tellings_6 : decode cX0_tellings 6 = .ok (.getfield 30, 3) := by decide +kernel
theorem dX0_tellings_9 : decode cX0_tellings 9 = .ok (.if_icmp .ge 21, 3) := by decide +kernel
theorem dX0_tellings_12 : decode cX0_tellings 12 = .ok (.iload_n 1, 1) := by decide +kernel
theorem dX0_tellings_13 : decode cX0_tellings 13 = .ok (.aload_n 0, 1) := by decide +kernel
theorem dX0_tellings_14 : decode cX0_tellings 14 = .ok (.getfield 21, 3) := by decide +kernel
theorem dX0_tellings_17 : decode cX0_tellings 17 = .ok (.iload_n 2, 1) := by decide +kernel
theorem dX0_tellings_18 : decode cX0_tellings 18 = .ok (.iaload, 1) := by decide +kernel
theorem dX0_tellings_19 : decode cX0_tellings 19 = .ok (.invokestatic 91, 3) := by decide +kernel
theorem dX0_tellings_22 : decode cX0_tellings 22 = .ok (.iadd, 1) := by decide +kernel
theorem dX0_tellings_23 : decode cX0_tellings 23 = .ok (.istore_n 1, 1) := by decide +kernel
theorem dX0_tellings_24 : decode cX0_tellings 24 = .ok (.iinc 2 1, 3) := by decide +kernel
theorem dX0_tellings_27 : decode cX0_tellings 27 = .ok (.goto (-23), 3) := by decide +kernel
theorem dX0_tellings_30 : decode cX0_tellings 30 = .ok (.iload_n 1, 1) := by decide +kernel
theorem dX0_tellings_31 : decode cX0_tellings 31 = .ok (.ireturn, 1) := by decide +kernel
theorem dX0_tellingOf_0 : decode cX0_tellingOf 0 = .ok (.aload_n 0, 1) := by decide +kernel
theorem dX0_tellingOf_1 : decode cX0_tellingOf 1 = .ok (.getfield 9, 3) := by decide +kernel
theorem dX0_tellingOf_4 : decode cX0_tellingOf 4 = .ok (.iload_n 1, 1) := by decide +kernel
theorem dX0_tellingOf_5 : decode cX0_tellingOf 5 = .ok (.iaload, 1) := by decide +kernel
theorem dX0_tellingOf_6 : decode cX0_tellingOf 6 = .ok (.iload_n 1, 1) := by decide +kernel
theorem dX0_tellingOf_7 : decode cX0_tellingOf 7 = .ok (.aload_n 0, 1) := by decide +kernel
theorem dX0_tellingOf_8 : decode cX0_tellingOf 8 = .ok (.getfield 21, 3) := by decide +kernel
theorem dX0_tellingOf_11 : decode cX0_tellingOf 11 = .ok (.iload_n 1, 1) := by decide +kernel
theorem dX0_tellingOf_12 : decode cX0_tellingOf 12 = .ok (.iaload, 1) := by decide +kernel
theorem dX0_tellingOf_13 : decode cX0_tellingOf 13 = .ok (.invokestatic 87, 3) := by decide +kernel
theorem dX0_tellingOf_16 : decode cX0_tellingOf 16 = .ok (.ireturn, 1) := by decide +kernel
theorem dX0_naming_0 : decode cX0_naming 0 = .ok (.aload_n 2, 1) := by decide +kernel
theorem dX0_naming_1 : decode cX0_naming 1 = .ok (.iload_n 1, 1) := by decide +kernel
theorem dX0_naming_2 : decode cX0_naming 2 = .ok (.iaload, 1) := by decide +kernel
theorem dX0_naming_3 : decode cX0_naming 3 = .ok (.iconst 1, 1) := by decide +kernel
theorem dX0_naming_4 : decode cX0_naming 4 = .ok (.iload_n 1, 1) := by decide +kernel
theorem dX0_naming_5 : decode cX0_naming 5 = .ok (.ishl, 1) := by decide +kernel
theorem dX0_naming_6 : decode cX0_naming 6 = .ok (.ior, 1) := by decide +kernel
theorem dX0_naming_7 : decode cX0_naming 7 = .ok (.aload_n 0, 1) := by decide +kernel
theorem dX0_naming_8 : decode cX0_naming 8 = .ok (.getfield 24, 3) := by decide +kernel
theorem dX0_naming_11 : decode cX0_naming 11 = .ok (.iconst 1, 1) := by decide +kernel
theorem dX0_naming_12 : decode cX0_naming 12 = .ok (.iaload, 1) := by decide +kernel
theorem dX0_naming_13 : decode cX0_naming 13 = .ok (.ior, 1) := by decide +kernel
theorem dX0_naming_14 : decode cX0_naming 14 = .ok (.istore_n 3, 1) := by decide +kernel
theorem dX0_naming_15 : decode cX0_naming 15 = .ok (.iload_n 3, 1) := by decide +kernel
theorem dX0_naming_16 : decode cX0_naming 16 = .ok (.aload_n 0, 1) := by decide +kernel
theorem dX0_naming_17 : decode cX0_naming 17 = .ok (.getfield 24, 3) := by decide +kernel
theorem dX0_naming_20 : decode cX0_naming 20 = .ok (.iconst 2, 1) := by decide +kernel
theorem dX0_naming_21 : decode cX0_naming 21 = .ok (.iaload, 1) := by decide +kernel
theorem dX0_naming_22 : decode cX0_naming 22 = .ok (.iand, 1) := by decide +kernel
theorem dX0_naming_23 : decode cX0_naming 23 = .ok (.ifCond .eq 14, 3) := by decide +kernel
theorem dX0_naming_26 : decode cX0_naming 26 = .ok (.iload_n 3, 1) := by decide +kernel
theorem dX0_naming_27 : decode cX0_naming 27 = .ok (.aload_n 0, 1) := by decide +kernel
theorem dX0_naming_28 : decode cX0_naming 28 = .ok (.getfield 24, 3) := by decide +kernel
theorem dX0_naming_31 : decode cX0_naming 31 = .ok (.iconst 2, 1) := by decide +kernel
theorem dX0_naming_32 : decode cX0_naming 32 = .ok (.iaload, 1) := by decide +kernel
theorem dX0_naming_33 : decode cX0_naming 33 = .ok (.ior, 1) := by decide +kernel
theorem dX0_naming_34 : decode cX0_naming 34 = .ok (.goto 4, 3) := by decide +kernel
theorem dX0_naming_37 : decode cX0_naming 37 = .ok (.iload_n 3, 1) := by decide +kernel
theorem dX0_naming_38 : decode cX0_naming 38 = .ok (.ireturn, 1) := by decide +kernel
theorem dX0_namersOf_0 : decode cX0_namersOf 0 = .ok (.iconst 0, 1) := by decide +kernel
theorem dX0_namersOf_1 : decode cX0_namersOf 1 = .ok (.istore_n 2, 1) := by decide +kernel
theorem dX0_namersOf_2 : decode cX0_namersOf 2 = .ok (.iconst 0, 1) := by decide +kernel
theorem dX0_namersOf_3 : decode cX0_namersOf 3 = .ok (.istore_n 3, 1) := by decide +kernel
theorem dX0_namersOf_4 : decode cX0_namersOf 4 = .ok (.iload_n 3, 1) := by decide +kernel
theorem dX0_namersOf_5 : decode cX0_namersOf 5 = .ok (.aload_n 0, 1) := by decide +kernel
theorem dX0_namersOf_6 : decode cX0_namersOf 6 = .ok (.getfield 30, 3) := by decide +kernel
theorem dX0_namersOf_9 : decode cX0_namersOf 9 = .ok (.if_icmp .ge 31, 3) := by decide +kernel
theorem dX0_namersOf_12 : decode cX0_namersOf 12 = .ok (.aload_n 0, 1) := by decide +kernel
theorem dX0_namersOf_13 : decode cX0_namersOf 13 = .ok (.iload_n 3, 1) := by decide +kernel
theorem dX0_namersOf_14 : decode cX0_namersOf 14 = .ok (.aload_n 0, 1) := by decide +kernel
theorem dX0_namersOf_15 : decode cX0_namersOf 15 = .ok (.getfield 21, 3) := by decide +kernel
theorem dX0_namersOf_18 : decode cX0_namersOf 18 = .ok (.invokevirtual 96, 3) := by decide +kernel
theorem dX0_namersOf_21 : decode cX0_namersOf 21 = .ok (.iload_n 1, 1) := by decide +kernel
theorem dX0_namersOf_22 : decode cX0_namersOf 22 = .ok (.invokestatic 46, 3) := by decide +kernel
theorem dX0_namersOf_25 : decode cX0_namersOf 25 = .ok (.ifCond .eq 9, 3) := by decide +kernel
theorem dX0_namersOf_28 : decode cX0_namersOf 28 = .ok (.iload_n 2, 1) := by decide +kernel
theorem dX0_namersOf_29 : decode cX0_namersOf 29 = .ok (.iconst 1, 1) := by decide +kernel
theorem dX0_namersOf_30 : decode cX0_namersOf 30 = .ok (.iload_n 3, 1) := by decide +kernel
theorem dX0_namersOf_31 : decode cX0_namersOf 31 = .ok (.ishl, 1) := by decide +kernel
theorem dX0_namersOf_32 : decode cX0_namersOf 32 = .ok (.ior, 1) := by decide +kernel
theorem dX0_namersOf_33 : decode cX0_namersOf 33 = .ok (.istore_n 2, 1) := by decide +kernel
theorem dX0_namersOf_34 : decode cX0_namersOf 34 = .ok (.iinc 3 1, 3) := by decide +kernel
theorem dX0_namersOf_37 : decode cX0_namersOf 37 = .ok (.goto (-33), 3) := by decide +kernel
theorem dX0_namersOf_40 : decode cX0_namersOf 40 = .ok (.iload_n 2, 1) := by decide +kernel
theorem dX0_namersOf_41 : decode cX0_namersOf 41 = .ok (.ireturn, 1) := by decide +kernel
theorem dX0_toldOf_0 : decode cX0_toldOf 0 = .ok (.iconst 0, 1) := by decide +kernel
theorem dX0_toldOf_1 : decode cX0_toldOf 1 = .ok (.istore_n 2, 1) := by decide +kernel
theorem dX0_toldOf_2 : decode cX0_toldOf 2 = .ok (.iconst 0, 1) := by decide +kernel
theorem dX0_toldOf_3 : decode cX0_toldOf 3 = .ok (.istore_n 3, 1) := by decide +kernel
theorem dX0_toldOf_4 : decode cX0_toldOf 4 = .ok (.iload_n 3, 1) := by decide +kernel
theorem dX0_toldOf_5 : decode cX0_toldOf 5 = .ok (.aload_n 0, 1) := by decide +kernel
theorem dX0_toldOf_6 : decode cX0_toldOf 6 = .ok (.getfield 30, 3) := by decide +kernel
theorem dX0_toldOf_9 : decode cX0_toldOf 9 = .ok (.if_icmp .ge 28, 3) := by decide +kernel
theorem dX0_toldOf_12 : decode cX0_toldOf 12 = .ok (.aload_n 0, 1) := by decide +kernel
theorem dX0_toldOf_13 : decode cX0_toldOf 13 = .ok (.getfield 21, 3) := by decide +kernel
theorem dX0_toldOf_16 : decode cX0_toldOf 16 = .ok (.iload_n 3, 1) := by decide +kernel
theorem dX0_toldOf_17 : decode cX0_toldOf 17 = .ok (.iaload, 1) := by decide +kernel
theorem dX0_toldOf_18 : decode cX0_toldOf 18 = .ok (.iload_n 1, 1) := by decide +kernel
theorem dX0_toldOf_19 : decode cX0_toldOf 19 = .ok (.invokestatic 46, 3) := by decide +kernel
theorem dX0_toldOf_22 : decode cX0_toldOf 22 = .ok (.ifCond .eq 9, 3) := by decide +kernel
theorem dX0_toldOf_25 : decode cX0_toldOf 25 = .ok (.iload_n 2, 1) := by decide +kernel
theorem dX0_toldOf_26 : decode cX0_toldOf 26 = .ok (.iconst 1, 1) := by decide +kernel
theorem dX0_toldOf_27 : decode cX0_toldOf 27 = .ok (.iload_n 3, 1) := by decide +kernel
theorem dX0_toldOf_28 : decode cX0_toldOf 28 = .ok (.ishl, 1) := by decide +kernel
theorem dX0_toldOf_29 : decode cX0_toldOf 29 = .ok (.ior, 1) := by decide +kernel
theorem dX0_toldOf_30 : decode cX0_toldOf 30 = .ok (.istore_n 2, 1) := by decide +kernel
theorem dX0_toldOf_31 : decode cX0_toldOf 31 = .ok (.iinc 3 1, 3) := by decide +kernel
theorem dX0_toldOf_34 : decode cX0_toldOf 34 = .ok (.goto (-30), 3) := by decide +kernel
theorem dX0_toldOf_37 : decode cX0_toldOf 37 = .ok (.iload_n 2, 1) := by decide +kernel
theorem dX0_toldOf_38 : decode cX0_toldOf 38 = .ok (.ireturn, 1) := by decide +kernel
theorem dX0_opensTo_0 : decode cX0_opensTo 0 = .ok (.aload_n 0, 1) := by decide +kernel
theorem dX0_opensTo_1 : decode cX0_opensTo 1 = .ok (.iload_n 1, 1) := by decide +kernel
theorem dX0_opensTo_2 : decode cX0_opensTo 2 = .ok (.invokevirtual 50, 3) := by decide +kernel
theorem dX0_opensTo_5 : decode cX0_opensTo 5 = .ok (.ifCond .eq 35, 3) := by decide +kernel
theorem dX0_opensTo_8 : decode cX0_opensTo 8 = .ok (.aload_n 0, 1) := by decide +kernel
theorem dX0_opensTo_9 : decode cX0_opensTo 9 = .ok (.getfield 40, 3) := by decide +kernel
theorem dX0_opensTo_12 : decode cX0_opensTo 12 = .ok (.bipush (-9), 2) := by decide +kernel
theorem dX0_opensTo_14 : decode cX0_opensTo 14 = .ok (.if_icmp .eq 22, 3) := by decide +kernel
theorem dX0_opensTo_17 : decode cX0_opensTo 17 = .ok (.aload_n 0, 1) := by decide +kernel
theorem dX0_opensTo_18 : decode cX0_opensTo 18 = .ok (.iload_n 1, 1) := by decide +kernel
theorem dX0_opensTo_19 : decode cX0_opensTo 19 = .ok (.aload_n 0, 1) := by decide +kernel
theorem dX0_opensTo_20 : decode cX0_opensTo 20 = .ok (.getfield 21, 3) := by decide +kernel
theorem dX0_opensTo_23 : decode cX0_opensTo 23 = .ok (.invokevirtual 96, 3) := by decide +kernel
theorem dX0_opensTo_26 : decode cX0_opensTo 26 = .ok (.aload_n 0, 1) := by decide +kernel
theorem dX0_opensTo_27 : decode cX0_opensTo 27 = .ok (.getfield 40, 3) := by decide +kernel
theorem dX0_opensTo_30 : decode cX0_opensTo 30 = .ok (.invokestatic 46, 3) := by decide +kernel
theorem dX0_opensTo_33 : decode cX0_opensTo 33 = .ok (.ifCond .eq 7, 3) := by decide +kernel
theorem dX0_opensTo_36 : decode cX0_opensTo 36 = .ok (.iconst 1, 1) := by decide +kernel
theorem dX0_opensTo_37 : decode cX0_opensTo 37 = .ok (.goto 4, 3) := by decide +kernel
theorem dX0_opensTo_40 : decode cX0_opensTo 40 = .ok (.iconst 0, 1) := by decide +kernel
theorem dX0_opensTo_41 : decode cX0_opensTo 41 = .ok (.ireturn, 1) := by decide +kernel
theorem dX0_opened_0 : decode cX0_opened 0 = .ok (.iconst 0, 1) := by decide +kernel
theorem dX0_opened_1 : decode cX0_opened 1 = .ok (.istore_n 1, 1) := by decide +kernel
theorem dX0_opened_2 : decode cX0_opened 2 = .ok (.iconst 0, 1) := by decide +kernel
theorem dX0_opened_3 : decode cX0_opened 3 = .ok (.istore_n 2, 1) := by decide +kernel
theorem dX0_opened_4 : decode cX0_opened 4 = .ok (.iload_n 2, 1) := by decide +kernel
theorem dX0_opened_5 : decode cX0_opened 5 = .ok (.aload_n 0, 1) := by decide +kernel
theorem dX0_opened_6 : decode cX0_opened 6 = .ok (.getfield 30, 3) := by decide +kernel
theorem dX0_opened_9 : decode cX0_opened 9 = .ok (.if_icmp .ge 23, 3) := by decide +kernel
theorem dX0_opened_12 : decode cX0_opened 12 = .ok (.aload_n 0, 1) := by decide +kernel
theorem dX0_opened_13 : decode cX0_opened 13 = .ok (.iload_n 2, 1) := by decide +kernel
theorem dX0_opened_14 : decode cX0_opened 14 = .ok (.invokevirtual 100, 3) := by decide +kernel
theorem dX0_opened_17 : decode cX0_opened 17 = .ok (.ifCond .eq 9, 3) := by decide +kernel
theorem dX0_opened_20 : decode cX0_opened 20 = .ok (.iload_n 1, 1) := by decide +kernel
theorem dX0_opened_21 : decode cX0_opened 21 = .ok (.iconst 1, 1) := by decide +kernel
theorem dX0_opened_22 : decode cX0_opened 22 = .ok (.iload_n 2, 1) := by decide +kernel
theorem dX0_opened_23 : decode cX0_opened 23 = .ok (.ishl, 1) := by decide +kernel
theorem dX0_opened_24 : decode cX0_opened 24 = .ok (.ior, 1) := by decide +kernel
theorem dX0_opened_25 : decode cX0_opened 25 = .ok (.istore_n 1, 1) := by decide +kernel
theorem dX0_opened_26 : decode cX0_opened 26 = .ok (.iinc 2 1, 3) := by decide +kernel
theorem dX0_opened_29 : decode cX0_opened 29 = .ok (.goto (-25), 3) := by decide +kernel
theorem dX0_opened_32 : decode cX0_opened 32 = .ok (.iload_n 1, 1) := by decide +kernel
theorem dX0_opened_33 : decode cX0_opened 33 = .ok (.ireturn, 1) := by decide +kernel
theorem dX0_worthOf_0 : decode cX0_worthOf 0 = .ok (.iconst 0, 1) := by decide +kernel
theorem dX0_worthOf_1 : decode cX0_worthOf 1 = .ok (.istore_n 2, 1) := by decide +kernel
theorem dX0_worthOf_2 : decode cX0_worthOf 2 = .ok (.iconst 0, 1) := by decide +kernel
theorem dX0_worthOf_3 : decode cX0_worthOf 3 = .ok (.istore_n 3, 1) := by decide +kernel
theorem dX0_worthOf_4 : decode cX0_worthOf 4 = .ok (.iload_n 3, 1) := by decide +kernel
theorem dX0_worthOf_5 : decode cX0_worthOf 5 = .ok (.aload_n 0, 1) := by decide +kernel
theorem dX0_worthOf_6 : decode cX0_worthOf 6 = .ok (.getfield 30, 3) := by decide +kernel
theorem dX0_worthOf_9 : decode cX0_worthOf 9 = .ok (.if_icmp .ge 26, 3) := by decide +kernel
theorem dX0_worthOf_12 : decode cX0_worthOf 12 = .ok (.iload_n 1, 1) := by decide +kernel
theorem dX0_worthOf_13 : decode cX0_worthOf 13 = .ok (.iload_n 3, 1) := by decide +kernel
theorem dX0_worthOf_14 : decode cX0_worthOf 14 = .ok (.invokestatic 46, 3) := by decide +kernel
theorem dX0_worthOf_17 : decode cX0_worthOf 17 = .ok (.ifCond .eq 12, 3) := by decide +kernel
theorem dX0_worthOf_20 : decode cX0_worthOf 20 = .ok (.iload_n 2, 1) := by decide +kernel
theorem dX0_worthOf_21 : decode cX0_worthOf 21 = .ok (.aload_n 0, 1) := by decide +kernel
theorem dX0_worthOf_22 : decode cX0_worthOf 22 = .ok (.getfield 15, 3) := by decide +kernel
theorem dX0_worthOf_25 : decode cX0_worthOf 25 = .ok (.iload_n 3, 1) := by decide +kernel
theorem dX0_worthOf_26 : decode cX0_worthOf 26 = .ok (.iaload, 1) := by decide +kernel
theorem dX0_worthOf_27 : decode cX0_worthOf 27 = .ok (.iadd, 1) := by decide +kernel
theorem dX0_worthOf_28 : decode cX0_worthOf 28 = .ok (.istore_n 2, 1) := by decide +kernel
theorem dX0_worthOf_29 : decode cX0_worthOf 29 = .ok (.iinc 3 1, 3) := by decide +kernel
theorem dX0_worthOf_32 : decode cX0_worthOf 32 = .ok (.goto (-28), 3) := by decide +kernel
theorem dX0_worthOf_35 : decode cX0_worthOf 35 = .ok (.iload_n 2, 1) := by decide +kernel
theorem dX0_worthOf_36 : decode cX0_worthOf 36 = .ok (.ireturn, 1) := by decide +kernel
theorem dX1_init_0 : decode cX1_init 0 = .ok (.aload_n 0, 1) := by decide +kernel
theorem dX1_init_1 : decode cX1_init 1 = .ok (.invokespecial 3, 3) := by decide +kernel
theorem dX1_init_4 : decode cX1_init 4 = .ok (.aload_n 0, 1) := by decide +kernel
theorem dX1_init_5 : decode cX1_init 5 = .ok (.bipush 7, 2) := by decide +kernel
theorem dX1_init_7 : decode cX1_init 7 = .ok (.newarray .int, 2) := by decide +kernel
theorem dX1_init_9 : decode cX1_init 9 = .ok (.putfield 9, 3) := by decide +kernel
theorem dX1_init_12 : decode cX1_init 12 = .ok (.aload_n 0, 1) := by decide +kernel
theorem dX1_init_13 : decode cX1_init 13 = .ok (.sipush 128, 3) := by decide +kernel
theorem dX1_init_16 : decode cX1_init 16 = .ok (.newarray .int, 2) := by decide +kernel
theorem dX1_init_18 : decode cX1_init 18 = .ok (.putfield 15, 3) := by decide +kernel
theorem dX1_init_21 : decode cX1_init 21 = .ok (.aload_n 0, 1) := by decide +kernel
theorem dX1_init_22 : decode cX1_init 22 = .ok (.sipush 128, 3) := by decide +kernel
theorem dX1_init_25 : decode cX1_init 25 = .ok (.newarray .int, 2) := by decide +kernel
theorem dX1_init_27 : decode cX1_init 27 = .ok (.putfield 18, 3) := by decide +kernel
theorem dX1_init_30 : decode cX1_init 30 = .ok (.aload_n 0, 1) := by decide +kernel
theorem dX1_init_31 : decode cX1_init 31 = .ok (.sipush 128, 3) := by decide +kernel
theorem dX1_init_34 : decode cX1_init 34 = .ok (.newarray .int, 2) := by decide +kernel
theorem dX1_init_36 : decode cX1_init 36 = .ok (.putfield 21, 3) := by decide +kernel
theorem dX1_init_39 : decode cX1_init 39 = .ok (.aload_n 0, 1) := by decide +kernel
theorem dX1_init_40 : decode cX1_init 40 = .ok (.sipush 896, 3) := by decide +kernel
theorem dX1_init_43 : decode cX1_init 43 = .ok (.newarray .int, 2) := by decide +kernel
theorem dX1_init_45 : decode cX1_init 45 = .ok (.putfield 24, 3) := by decide +kernel
theorem dX1_init_48 : decode cX1_init 48 = .ok (.aload_n 0, 1) := by decide +kernel
theorem dX1_init_49 : decode cX1_init 49 = .ok (.iconst 0, 1) := by decide +kernel
theorem dX1_init_50 : decode cX1_init 50 = .ok (.putfield 27, 3) := by decide +kernel
theorem dX1_init_53 : decode cX1_init 53 = .ok (.aload_n 0, 1) := by decide +kernel
theorem dX1_init_54 : decode cX1_init 54 = .ok (.iconst 0, 1) := by decide +kernel
theorem dX1_init_55 : decode cX1_init 55 = .ok (.putfield 31, 3) := by decide +kernel
theorem dX1_init_58 : decode cX1_init 58 = .ok (.aload_n 0, 1) := by decide +kernel
theorem dX1_init_59 : decode cX1_init 59 = .ok (.iconst 0, 1) := by decide +kernel
theorem dX1_init_60 : decode cX1_init 60 = .ok (.putfield 34, 3) := by decide +kernel
theorem dX1_init_63 : decode cX1_init 63 = .ok (.return_, 1) := by decide +kernel
theorem dX1_survey_0 : decode cX1_survey 0 = .ok (.aload_n 0, 1) := by decide +kernel
theorem dX1_survey_1 : decode cX1_survey 1 = .ok (.aload_n 1, 1) := by decide +kernel
theorem dX1_survey_2 : decode cX1_survey 2 = .ok (.aload_n 2, 1) := by decide +kernel
theorem dX1_survey_3 : decode cX1_survey 3 = .ok (.invokevirtual 37, 3) := by decide +kernel
theorem dX1_survey_6 : decode cX1_survey 6 = .ok (.aload_n 0, 1) := by decide +kernel
theorem dX1_survey_7 : decode cX1_survey 7 = .ok (.invokevirtual 41, 3) := by decide +kernel
theorem dX1_survey_10 : decode cX1_survey 10 = .ok (.return_, 1) := by decide +kernel
theorem dX1_look_0 : decode cX1_look 0 = .ok (.aload_n 0, 1) := by decide +kernel
theorem dX1_look_1 : decode cX1_look 1 = .ok (.aload_n 1, 1) := by decide +kernel
theorem dX1_look_2 : decode cX1_look 2 = .ok (.getfield 44, 3) := by decide +kernel
theorem dX1_look_5 : decode cX1_look 5 = .ok (.putfield 27, 3) := by decide +kernel
theorem dX1_look_8 : decode cX1_look 8 = .ok (.aload_n 0, 1) := by decide +kernel
theorem dX1_look_9 : decode cX1_look 9 = .ok (.aload_n 1, 1) := by decide +kernel
theorem dX1_look_10 : decode cX1_look 10 = .ok (.invokevirtual 47, 3) := by decide +kernel
theorem dX1_look_13 : decode cX1_look 13 = .ok (.putfield 31, 3) := by decide +kernel
theorem dX1_look_16 : decode cX1_look 16 = .ok (.aload_n 0, 1) := by decide +kernel
theorem dX1_look_17 : decode cX1_look 17 = .ok (.getfield 9, 3) := by decide +kernel
theorem dX1_look_20 : decode cX1_look 20 = .ok (.iconst 0, 1) := by decide +kernel
theorem dX1_look_21 : decode cX1_look 21 = .ok (.invokestatic 50, 3) := by decide +kernel
theorem dX1_look_24 : decode cX1_look 24 = .ok (.iconst 0, 1) := by decide +kernel
theorem dX1_look_25 : decode cX1_look 25 = .ok (.istore_n 3, 1) := by decide +kernel
theorem dX1_look_26 : decode cX1_look 26 = .ok (.iload_n 3, 1) := by decide +kernel
theorem dX1_look_27 : decode cX1_look 27 = .ok (.aload_n 0, 1) := by decide +kernel
theorem dX1_look_28 : decode cX1_look 28 = .ok (.getfield 27, 3) := by decide +kernel
theorem dX1_look_31 : decode cX1_look 31 = .ok (.if_icmp .ge 58, 3) := by decide +kernel
theorem dX1_look_34 : decode cX1_look 34 = .ok (.aload_n 1, 1) := by decide +kernel
theorem dX1_look_35 : decode cX1_look 35 = .ok (.iload_n 3, 1) := by decide +kernel
theorem dX1_look_36 : decode cX1_look 36 = .ok (.aload_n 2, 1) := by decide +kernel
theorem dX1_look_37 : decode cX1_look 37 = .ok (.invokevirtual 56, 3) := by decide +kernel
theorem dX1_look_40 : decode cX1_look 40 = .ok (.istore 4, 2) := by decide +kernel
theorem dX1_look_42 : decode cX1_look 42 = .ok (.iconst 0, 1) := by decide +kernel
theorem dX1_look_43 : decode cX1_look 43 = .ok (.istore 5, 2) := by decide +kernel
theorem dX1_look_45 : decode cX1_look 45 = .ok (.iload 5, 2) := by decide +kernel
theorem dX1_look_47 : decode cX1_look 47 = .ok (.aload_n 0, 1) := by decide +kernel
theorem dX1_look_48 : decode cX1_look 48 = .ok (.getfield 27, 3) := by decide +kernel
theorem dX1_look_51 : decode cX1_look 51 = .ok (.if_icmp .ge 32, 3) := by decide +kernel
theorem dX1_look_54 : decode cX1_look 54 = .ok (.iload 4, 2) := by decide +kernel
theorem dX1_look_56 : decode cX1_look 56 = .ok (.iload 5, 2) := by decide +kernel
theorem dX1_look_58 : decode cX1_look 58 = .ok (.invokestatic 60, 3) := by decide +kernel
theorem dX1_look_61 : decode cX1_look 61 = .ok (.ifCond .eq 16, 3) := by decide +kernel
theorem dX1_look_64 : decode cX1_look 64 = .ok (.aload_n 0, 1) := by decide +kernel
theorem dX1_look_65 : decode cX1_look 65 = .ok (.getfield 9, 3) := by decide +kernel
theorem dX1_look_68 : decode cX1_look 68 = .ok (.iload 5, 2) := by decide +kernel
theorem dX1_look_70 : decode cX1_look 70 = .ok (.dup2, 1) := by decide +kernel
theorem dX1_look_71 : decode cX1_look 71 = .ok (.iaload, 1) := by decide +kernel
theorem dX1_look_72 : decode cX1_look 72 = .ok (.iconst 1, 1) := by decide +kernel
theorem dX1_look_73 : decode cX1_look 73 = .ok (.iload_n 3, 1) := by decide +kernel
theorem dX1_look_74 : decode cX1_look 74 = .ok (.ishl, 1) := by decide +kernel
theorem dX1_look_75 : decode cX1_look 75 = .ok (.ior, 1) := by decide +kernel
theorem dX1_look_76 : decode cX1_look 76 = .ok (.iastore, 1) := by decide +kernel
theorem dX1_look_77 : decode cX1_look 77 = .ok (.iinc 5 1, 3) := by decide +kernel
theorem dX1_look_80 : decode cX1_look 80 = .ok (.goto (-35), 3) := by decide +kernel
theorem dX1_look_83 : decode cX1_look 83 = .ok (.iinc 3 1, 3) := by decide +kernel
theorem dX1_look_86 : decode cX1_look 86 = .ok (.goto (-60), 3) := by decide +kernel
theorem dX1_look_89 : decode cX1_look 89 = .ok (.aload_n 1, 1) := by decide +kernel
theorem dX1_look_90 : decode cX1_look 90 = .ok (.getfield 64, 3) := by decide +kernel
theorem dX1_look_93 : decode cX1_look 93 = .ok (.ifCond .lt 18, 3) := by decide +kernel
theorem dX1_look_96 : decode cX1_look 96 = .ok (.aload_n 1, 1) := by decide +kernel
theorem dX1_look_97 : decode cX1_look 97 = .ok (.getfield 64, 3) := by decide +kernel
theorem dX1_look_100 : decode cX1_look 100 = .ok (.aload_n 0, 1) := by decide +kernel
theorem dX1_look_101 : decode cX1_look 101 = .ok (.getfield 27, 3) := by decide +kernel
theorem dX1_look_104 : decode cX1_look 104 = .ok (.if_icmp .ge 7, 3) := by decide +kernel
theorem dX1_look_107 : decode cX1_look 107 = .ok (.iconst 1, 1) := by decide +kernel
theorem dX1_look_108 : decode cX1_look 108 = .ok (.goto 4, 3) := by decide +kernel
theorem dX1_look_111 : decode cX1_look 111 = .ok (.iconst 0, 1) := by decide +kernel
theorem dX1_look_112 : decode cX1_look 112 = .ok (.istore_n 3, 1) := by decide +kernel
theorem dX1_look_113 : decode cX1_look 113 = .ok (.aload_n 0, 1) := by decide +kernel
theorem dX1_look_114 : decode cX1_look 114 = .ok (.iload_n 3, 1) := by decide +kernel
theorem dX1_look_115 : decode cX1_look 115 = .ok (.ifCond .eq 20, 3) := by decide +kernel
theorem dX1_look_118 : decode cX1_look 118 = .ok (.aload_n 0, 1) := by decide +kernel
theorem dX1_look_119 : decode cX1_look 119 = .ok (.getfield 9, 3) := by decide +kernel
theorem dX1_look_122 : decode cX1_look 122 = .ok (.aload_n 1, 1) := by decide +kernel
theorem dX1_look_123 : decode cX1_look 123 = .ok (.getfield 64, 3) := by decide +kernel
theorem dX1_look_126 : decode cX1_look 126 = .ok (.iaload, 1) := by decide +kernel
theorem dX1_look_127 : decode cX1_look 127 = .ok (.aload_n 0, 1) := by decide +kernel
theorem dX1_look_128 : decode cX1_look 128 = .ok (.getfield 31, 3) := by decide +kernel
theorem dX1_look_131 : decode cX1_look 131 = .ok (.iand, 1) := by decide +kernel
theorem dX1_look_132 : decode cX1_look 132 = .ok (.goto 7, 3) := by decide +kernel
theorem dX1_look_135 : decode cX1_look 135 = .ok (.aload_n 0, 1) := by decide +kernel
theorem dX1_look_136 : decode cX1_look 136 = .ok (.getfield 31, 3) := by decide +kernel
theorem dX1_look_139 : decode cX1_look 139 = .ok (.putfield 34, 3) := by decide +kernel
theorem dX1_look_142 : decode cX1_look 142 = .ok (.return_, 1) := by decide +kernel
theorem dX1_within_0 : decode cX1_within 0 = .ok (.iload_n 1, 1) := by decide +kernel
theorem dX1_within_1 : decode cX1_within 1 = .ok (.aload_n 0, 1) := by decide +kernel
theorem dX1_within_2 : decode cX1_within 2 = .ok (.getfield 31, 3) := by decide +kernel
theorem dX1_within_5 : decode cX1_within 5 = .ok (.iconst (-1), 1) := by decide +kernel
theorem dX1_within_6 : decode cX1_within 6 = .ok (.ixor, 1) := by decide +kernel
theorem dX1_within_7 : decode cX1_within 7 = .ok (.iand, 1) := by decide +kernel
theorem dX1_within_8 : decode cX1_within 8 = .ok (.ifCond .ne 7, 3) := by decide +kernel
theorem dX1_within_11 : decode cX1_within 11 = .ok (.iconst 1, 1) := by decide +kernel
theorem dX1_within_12 : decode cX1_within 12 = .ok (.goto 4, 3) := by decide +kernel
theorem dX1_within_15 : decode cX1_within 15 = .ok (.iconst 0, 1) := by decide +kernel
theorem dX1_within_16 : decode cX1_within 16 = .ok (.ireturn, 1) := by decide +kernel
theorem dX1_mayAllCome_0 : decode cX1_mayAllCome 0 = .ok (.iconst 0, 1) := by decide +kernel
theorem dX1_mayAllCome_1 : decode cX1_mayAllCome 1 = .ok (.istore_n 1, 1) := by decide +kernel
theorem dX1_mayAllCome_2 : decode cX1_mayAllCome 2 = .ok (.iconst 0, 1) := by decide +kernel
theorem dX1_mayAllCome_3 : decode cX1_mayAllCome 3 = .ok (.istore_n 2, 1) := by decide +kernel
theorem dX1_mayAllCome_4 : decode cX1_mayAllCome 4 = .ok (.iload_n 2, 1) := by decide +kernel
theorem dX1_mayAllCome_5 : decode cX1_mayAllCome 5 = .ok (.aload_n 0, 1) := by decide +kernel
theorem dX1_mayAllCome_6 : decode cX1_mayAllCome 6 = .ok (.getfield 27, 3) := by decide +kernel
theorem dX1_mayAllCome_9 : decode cX1_mayAllCome 9 = .ok (.if_icmp .ge 35, 3) := by decide +kernel
theorem dX1_mayAllCome_12 : decode cX1_mayAllCome 12 = .ok (.aload_n 0, 1) := by decide +kernel
theorem dX1_mayAllCome_13 : decode cX1_mayAllCome 13 = .ok (.getfield 31, 3) := by decide +kernel
theorem dX1_mayAllCome_16 : decode cX1_mayAllCome 16 = .ok (.iload_n 2, 1) := by decide +kernel
theorem dX1_mayAllCome_17 : decode cX1_mayAllCome 17 = .ok (.invokestatic 60, 3) := by decide +kernel
theorem dX1_mayAllCome_20 : decode cX1_mayAllCome 20 = .ok (.ifCond .eq 18, 3) := by decide +kernel
theorem dX1_mayAllCome_23 : decode cX1_mayAllCome 23 = .ok (.iload_n 1, 1) := by decide +kernel
theorem dX1_mayAllCome_24 : decode cX1_mayAllCome 24 = .ok (.aload_n 0, 1) := by decide +kernel
theorem dX1_mayAllCome_25 : decode cX1_mayAllCome 25 = .ok (.getfield 9, 3) := by decide +kernel
theorem dX1_mayAllCome_28 : decode cX1_mayAllCome 28 = .ok (.iload_n 2, 1) := by decide +kernel
theorem dX1_mayAllCome_29 : decode cX1_mayAllCome 29 = .ok (.iaload, 1) := by decide +kernel
theorem dX1_mayAllCome_30 : decode cX1_mayAllCome 30 = .ok (.iconst 1, 1) := by decide +kernel
theorem dX1_mayAllCome_31 : decode cX1_mayAllCome 31 = .ok (.iload_n 2, 1) := by decide +kernel
theorem dX1_mayAllCome_32 : decode cX1_mayAllCome 32 = .ok (.ishl, 1) := by decide +kernel
theorem dX1_mayAllCome_33 : decode cX1_mayAllCome 33 = .ok (.iconst (-1), 1) := by decide +kernel
theorem dX1_mayAllCome_34 : decode cX1_mayAllCome 34 = .ok (.ixor, 1) := by decide +kernel
theorem dX1_mayAllCome_35 : decode cX1_mayAllCome 35 = .ok (.iand, 1) := by decide +kernel
theorem dX1_mayAllCome_36 : decode cX1_mayAllCome 36 = .ok (.ior, 1) := by decide +kernel
theorem dX1_mayAllCome_37 : decode cX1_mayAllCome 37 = .ok (.istore_n 1, 1) := by decide +kernel
theorem dX1_mayAllCome_38 : decode cX1_mayAllCome 38 = .ok (.iinc 2 1, 3) := by decide +kernel
theorem dX1_mayAllCome_41 : decode cX1_mayAllCome 41 = .ok (.goto (-37), 3) := by decide +kernel
theorem dX1_mayAllCome_44 : decode cX1_mayAllCome 44 = .ok (.aload_n 0, 1) := by decide +kernel
theorem dX1_mayAllCome_45 : decode cX1_mayAllCome 45 = .ok (.getfield 31, 3) := by decide +kernel
theorem dX1_mayAllCome_48 : decode cX1_mayAllCome 48 = .ok (.iload_n 1, 1) := by decide +kernel
theorem dX1_mayAllCome_49 : decode cX1_mayAllCome 49 = .ok (.iconst (-1), 1) := by decide +kernel
theorem dX1_mayAllCome_50 : decode cX1_mayAllCome 50 = .ok (.ixor, 1) := by decide +kernel
theorem dX1_mayAllCome_51 : decode cX1_mayAllCome 51 = .ok (.iand, 1) := by decide +kernel
theorem dX1_mayAllCome_52 : decode cX1_mayAllCome 52 = .ok (.istore_n 2, 1) := by decide +kernel
theorem dX1_mayAllCome_53 : decode cX1_mayAllCome 53 = .ok (.iload_n 2, 1) := by decide +kernel
theorem dX1_mayAllCome_54 : decode cX1_mayAllCome 54 = .ok (.aload_n 0, 1) := by decide +kernel
theorem dX1_mayAllCome_55 : decode cX1_mayAllCome 55 = .ok (.getfield 34, 3) := by decide +kernel
theorem dX1_mayAllCome_58 : decode cX1_mayAllCome 58 = .ok (.iconst (-1), 1) := by decide +kernel
theorem dX1_mayAllCome_59 : decode cX1_mayAllCome 59 = .ok (.ixor, 1) := by decide +kernel
theorem dX1_mayAllCome_60 : decode cX1_mayAllCome 60 = .ok (.iand, 1) := by decide +kernel
theorem dX1_mayAllCome_61 : decode cX1_mayAllCome 61 = .ok (.ifCond .ne 15, 3) := by decide +kernel
theorem dX1_mayAllCome_64 : decode cX1_mayAllCome 64 = .ok (.iload_n 2, 1) := by decide +kernel
theorem dX1_mayAllCome_65 : decode cX1_mayAllCome 65 = .ok (.invokestatic 67, 3) := by decide +kernel
theorem dX1_mayAllCome_68 : decode cX1_mayAllCome 68 = .ok (.iconst 1, 1) := by decide +kernel
theorem dX1_mayAllCome_69 : decode cX1_mayAllCome 69 = .ok (.if_icmp .gt 7, 3) := by decide +kernel
theorem dX1_mayAllCome_72 : decode cX1_mayAllCome 72 = .ok (.iconst 1, 1) := by decide +kernel
theorem dX1_mayAllCome_73 : decode cX1_mayAllCome 73 = .ok (.goto 4, 3) := by decide +kernel
theorem dX1_mayAllCome_76 : decode cX1_mayAllCome 76 = .ok (.iconst 0, 1) := by decide +kernel
theorem dX1_mayAllCome_77 : decode cX1_mayAllCome 77 = .ok (.ireturn, 1) := by decide +kernel
theorem dX1_chain_0 : decode cX1_chain 0 = .ok (.iconst 1, 1) := by decide +kernel
theorem dX1_chain_1 : decode cX1_chain 1 = .ok (.istore_n 1, 1) := by decide +kernel
theorem dX1_chain_2 : decode cX1_chain 2 = .ok (.iload_n 1, 1) := by decide +kernel
theorem dX1_chain_3 : decode cX1_chain 3 = .ok (.aload_n 0, 1) := by decide +kernel
theorem dX1_chain_4 : decode cX1_chain 4 = .ok (.getfield 31, 3) := by decide +kernel
theorem dX1_chain_7 : decode cX1_chain 7 = .ok (.if_icmp .gt 28, 3) := by decide +kernel
theorem dX1_chain_10 : decode cX1_chain 10 = .ok (.aload_n 0, 1) := by decide +kernel
theorem dX1_chain_11 : decode cX1_chain 11 = .ok (.iload_n 1, 1) := by decide +kernel
theorem dX1_chain_12 : decode cX1_chain 12 = .ok (.invokevirtual 73, 3) := by decide +kernel
theorem dX1_chain_15 : decode cX1_chain 15 = .ok (.ifCond .eq 14, 3) := by decide +kernel
theorem dX1_chain_18 : decode cX1_chain 18 = .ok (.aload_n 0, 1) := by decide +kernel
theorem dX1_chain_19 : decode cX1_chain 19 = .ok (.getfield 15, 3) := by decide +kernel
theorem dX1_chain_22 : decode cX1_chain 22 = .ok (.iload_n 1, 1) := by decide +kernel
theorem dX1_chain_23 : decode cX1_chain 23 = .ok (.aload_n 0, 1) := by decide +kernel
theorem dX1_chain_24 : decode cX1_chain 24 = .ok (.iload_n 1, 1) := by decide +kernel
theorem dX1_chain_25 : decode cX1_chain 25 = .ok (.invokevirtual 77, 3) := by decide +kernel
theorem dX1_chain_28 : decode cX1_chain 28 = .ok (.iastore, 1) := by decide +kernel
theorem dX1_chain_29 : decode cX1_chain 29 = .ok (.iinc 1 1, 3) := by decide +kernel
theorem dX1_chain_32 : decode cX1_chain 32 = .ok (.goto (-30), 3) := by decide +kernel
theorem dX1_chain_35 : decode cX1_chain 35 = .ok (.return_, 1) := by decide +kernel
theorem dX1_startersOf_0 : decode cX1_startersOf 0 = .ok (.iconst 0, 1) := by decide +kernel
theorem dX1_startersOf_1 : decode cX1_startersOf 1 = .ok (.istore_n 2, 1) := by decide +kernel
theorem dX1_startersOf_2 : decode cX1_startersOf 2 = .ok (.iconst 0, 1) := by decide +kernel
theorem dX1_startersOf_3 : decode cX1_startersOf 3 = .ok (.istore_n 3, 1) := by decide +kernel
theorem dX1_startersOf_4 : decode cX1_startersOf 4 = .ok (.iload_n 3, 1) := by decide +kernel
theorem dX1_startersOf_5 : decode cX1_startersOf 5 = .ok (.aload_n 0, 1) := by decide +kernel
theorem dX1_startersOf_6 : decode cX1_startersOf 6 = .ok (.getfield 27, 3) := by decide +kernel
theorem dX1_startersOf_9 : decode cX1_startersOf 9 = .ok (.if_icmp .ge 54, 3) := by decide +kernel
theorem dX1_startersOf_12 : decode cX1_startersOf 12 = .ok (.iload_n 1, 1) := by decide +kernel
theorem dX1_startersOf_13 : decode cX1_startersOf 13 = .ok (.iload_n 3, 1) := by decide +kernel
theorem dX1_startersOf_14 : decode cX1_startersOf 14 = .ok (.invokestatic 60, 3) := by decide +kernel
theorem dX1_startersOf_17 : decode cX1_startersOf 17 = .ok (.ifCond .eq 40, 3) := by decide +kernel
theorem dX1_startersOf_20 : decode cX1_startersOf 20 = .ok (.iload_n 1, 1) := by decide +kernel
theorem dX1_startersOf_21 : decode cX1_startersOf 21 = .ok (.iconst 1, 1) := by decide +kernel
theorem dX1_startersOf_22 : decode cX1_startersOf 22 = .ok (.iload_n 3, 1) := by decide +kernel
theorem dX1_startersOf_23 : decode cX1_startersOf 23 = .ok (.ishl, 1) := by decide +kernel
theorem dX1_startersOf_24 : decode cX1_startersOf 24 = .ok (.iconst (-1), 1) := by decide +kernel
theorem dX1_startersOf_25 : decode cX1_startersOf 25 = .ok (.ixor, 1) := by decide +kernel
theorem dX1_startersOf_26 : decode cX1_startersOf 26 = .ok (.iand, 1) := by decide +kernel
theorem dX1_startersOf_27 : decode cX1_startersOf 27 = .ok (.istore 4, 2) := by decide +kernel
theorem dX1_startersOf_29 : decode cX1_startersOf 29 = .ok (.iload 4, 2) := by decide +kernel
theorem dX1_startersOf_31 : decode cX1_startersOf 31 = .ok (.ifCond .eq 20, 3) := by decide +kernel
theorem dX1_startersOf_34 : decode cX1_startersOf 34 = .ok (.aload_n 0, 1) := by decide +kernel
theorem dX1_startersOf_35 : decode cX1_startersOf 35 = .ok (.getfield 15, 3) := by decide +kernel
theorem dX1_startersOf_38 : decode cX1_startersOf 38 = .ok (.iload 4, 2) := by decide +kernel
theorem dX1_startersOf_40 : decode cX1_startersOf 40 = .ok (.iaload, 1) := by decide +kernel
theorem dX1_startersOf_41 : decode cX1_startersOf 41 = .ok (.aload_n 0, 1) := by decide +kernel
theorem dX1_startersOf_42 : decode cX1_startersOf 42 = .ok (.getfield 9, 3) := by decide +kernel
theorem dX1_startersOf_45 : decode cX1_startersOf 45 = .ok (.iload_n 3, 1) := by decide +kernel
theorem dX1_startersOf_46 : decode cX1_startersOf 46 = .ok (.iaload, 1) := by decide +kernel
theorem dX1_startersOf_47 : decode cX1_startersOf 47 = .ok (.iand, 1) := by decide +kernel
theorem dX1_startersOf_48 : decode cX1_startersOf 48 = .ok (.ifCond .eq 9, 3) := by decide +kernel
theorem dX1_startersOf_51 : decode cX1_startersOf 51 = .ok (.iload_n 2, 1) := by decide +kernel
theorem dX1_startersOf_52 : decode cX1_startersOf 52 = .ok (.iconst 1, 1) := by decide +kernel
theorem dX1_startersOf_53 : decode cX1_startersOf 53 = .ok (.iload_n 3, 1) := by decide +kernel
theorem dX1_startersOf_54 : decode cX1_startersOf 54 = .ok (.ishl, 1) := by decide +kernel
theorem dX1_startersOf_55 : decode cX1_startersOf 55 = .ok (.ior, 1) := by decide +kernel
theorem dX1_startersOf_56 : decode cX1_startersOf 56 = .ok (.istore_n 2, 1) := by decide +kernel
theorem dX1_startersOf_57 : decode cX1_startersOf 57 = .ok (.iinc 3 1, 3) := by decide +kernel
theorem dX1_startersOf_60 : decode cX1_startersOf 60 = .ok (.goto (-56), 3) := by decide +kernel
theorem dX1_startersOf_63 : decode cX1_startersOf 63 = .ok (.iload_n 2, 1) := by decide +kernel
theorem dX1_startersOf_64 : decode cX1_startersOf 64 = .ok (.ireturn, 1) := by decide +kernel
theorem dX1_comesThrough_0 : decode cX1_comesThrough 0 = .ok (.aload_n 0, 1) := by decide +kernel
theorem dX1_comesThrough_1 : decode cX1_comesThrough 1 = .ok (.iload_n 1, 1) := by decide +kernel
theorem dX1_comesThrough_2 : decode cX1_comesThrough 2 = .ok (.invokevirtual 73, 3) := by decide +kernel
theorem dX1_comesThrough_5 : decode cX1_comesThrough 5 = .ok (.ifCond .eq 25, 3) := by decide +kernel
theorem dX1_comesThrough_8 : decode cX1_comesThrough 8 = .ok (.iload_n 1, 1) := by decide +kernel
theorem dX1_comesThrough_9 : decode cX1_comesThrough 9 = .ok (.ifCond .eq 17, 3) := by decide +kernel
theorem dX1_comesThrough_12 : decode cX1_comesThrough 12 = .ok (.aload_n 0, 1) := by decide +kernel
theorem dX1_comesThrough_13 : decode cX1_comesThrough 13 = .ok (.getfield 15, 3) := by decide +kernel
theorem dX1_comesThrough_16 : decode cX1_comesThrough 16 = .ok (.iload_n 1, 1) := by decide +kernel
theorem dX1_comesThrough_17 : decode cX1_comesThrough 17 = .ok (.iaload, 1) := by decide +kernel
theorem dX1_comesThrough_18 : decode cX1_comesThrough 18 = .ok (.aload_n 0, 1) := by decide +kernel
theorem dX1_comesThrough_19 : decode cX1_comesThrough 19 = .ok (.getfield 34, 3) := by decide +kernel
theorem dX1_comesThrough_22 : decode cX1_comesThrough 22 = .ok (.iand, 1) := by decide +kernel
theorem dX1_comesThrough_23 : decode cX1_comesThrough 23 = .ok (.ifCond .eq 7, 3) := by decide +kernel
theorem dX1_comesThrough_26 : decode cX1_comesThrough 26 = .ok (.iconst 1, 1) := by decide +kernel
theorem dX1_comesThrough_27 : decode cX1_comesThrough 27 = .ok (.goto 4, 3) := by decide +kernel
theorem dX1_comesThrough_30 : decode cX1_comesThrough 30 = .ok (.iconst 0, 1) := by decide +kernel
theorem dX1_comesThrough_31 : decode cX1_comesThrough 31 = .ok (.ireturn, 1) := by decide +kernel
theorem dX1_rank_0 : decode cX1_rank 0 = .ok (.aload_n 0, 1) := by decide +kernel
theorem dX1_rank_1 : decode cX1_rank 1 = .ok (.getfield 18, 3) := by decide +kernel
theorem dX1_rank_4 : decode cX1_rank 4 = .ok (.iconst 0, 1) := by decide +kernel
theorem dX1_rank_5 : decode cX1_rank 5 = .ok (.iconst 0, 1) := by decide +kernel
theorem dX1_rank_6 : decode cX1_rank 6 = .ok (.iastore, 1) := by decide +kernel
theorem dX1_rank_7 : decode cX1_rank 7 = .ok (.iconst 1, 1) := by decide +kernel
theorem dX1_rank_8 : decode cX1_rank 8 = .ok (.istore_n 1, 1) := by decide +kernel
theorem dX1_rank_9 : decode cX1_rank 9 = .ok (.iload_n 1, 1) := by decide +kernel
theorem dX1_rank_10 : decode cX1_rank 10 = .ok (.aload_n 0, 1) := by decide +kernel
theorem dX1_rank_11 : decode cX1_rank 11 = .ok (.getfield 31, 3) := by decide +kernel
theorem dX1_rank_14 : decode cX1_rank 14 = .ok (.if_icmp .gt 49, 3) := by decide +kernel
theorem dX1_rank_17 : decode cX1_rank 17 = .ok (.aload_n 0, 1) := by decide +kernel
theorem dX1_rank_18 : decode cX1_rank 18 = .ok (.iload_n 1, 1) := by decide +kernel
theorem dX1_rank_19 : decode cX1_rank 19 = .ok (.invokevirtual 80, 3) := by decide +kernel
theorem dX1_rank_22 : decode cX1_rank 22 = .ok (.ifCond .eq 16, 3) := by decide +kernel
theorem dX1_rank_25 : decode cX1_rank 25 = .ok (.aload_n 0, 1) := by decide +kernel
theorem dX1_rank_26 : decode cX1_rank 26 = .ok (.getfield 18, 3) := by decide +kernel
theorem dX1_rank_29 : decode cX1_rank 29 = .ok (.iload_n 1, 1) := by decide +kernel
theorem dX1_rank_30 : decode cX1_rank 30 = .ok (.iload_n 1, 1) := by decide +kernel
theorem dX1_rank_31 : decode cX1_rank 31 = .ok (.invokestatic 67, 3) := by decide +kernel
theorem dX1_rank_34 : decode cX1_rank 34 = .ok (.iastore, 1) := by decide +kernel
theorem dX1_rank_35 : decode cX1_rank 35 = .ok (.goto 22, 3) := by decide +kernel
theorem dX1_rank_38 : decode cX1_rank 38 = .ok (.aload_n 0, 1) := by decide +kernel
theorem dX1_rank_39 : decode cX1_rank 39 = .ok (.iload_n 1, 1) := by decide +kernel
theorem dX1_rank_40 : decode cX1_rank 40 = .ok (.invokevirtual 73, 3) := by decide +kernel
theorem dX1_rank_43 : decode cX1_rank 43 = .ok (.ifCond .eq 14, 3) := by decide +kernel
theorem dX1_rank_46 : decode cX1_rank 46 = .ok (.aload_n 0, 1) := by decide +kernel
theorem dX1_rank_47 : decode cX1_rank 47 = .ok (.getfield 18, 3) := by decide +kernel
theorem dX1_rank_50 : decode cX1_rank 50 = .ok (.iload_n 1, 1) := by decide +kernel
theorem dX1_rank_51 : decode cX1_rank 51 = .ok (.aload_n 0, 1) := by decide +kernel
theorem dX1_rank_52 : decode cX1_rank 52 = .ok (.iload_n 1, 1) := by decide +kernel
theorem dX1_rank_53 : decode cX1_rank 53 = .ok (.invokevirtual 83, 3) := by decide +kernel
theorem dX1_rank_56 : decode cX1_rank 56 = .ok (.iastore, 1) := by decide +kernel
theorem dX1_rank_57 : decode cX1_rank 57 = .ok (.iinc 1 1, 3) := by decide +kernel
theorem dX1_rank_60 : decode cX1_rank 60 = .ok (.goto (-51), 3) := by decide +kernel
theorem dX1_rank_63 : decode cX1_rank 63 = .ok (.return_, 1) := by decide +kernel
theorem dX1_bestWithoutOne_0 : decode cX1_bestWithoutOne 0 = .ok (.iconst 0, 1) := by decide +kernel
theorem dX1_bestWithoutOne_1 : decode cX1_bestWithoutOne 1 = .ok (.istore_n 2, 1) := by decide +kernel
theorem dX1_bestWithoutOne_2 : decode cX1_bestWithoutOne 2 = .ok (.iconst 0, 1) := by decide +kernel
theorem dX1_bestWithoutOne_3 : decode cX1_bestWithoutOne 3 = .ok (.istore_n 3, 1) := by decide +kernel
theorem dX1_bestWithoutOne_4 : decode cX1_bestWithoutOne 4 = .ok (.iload_n 3, 1) := by decide +kernel
theorem dX1_bestWithoutOne_5 : decode cX1_bestWithoutOne 5 = .ok (.aload_n 0, 1) := by decide +kernel
theorem dX1_bestWithoutOne_6 : decode cX1_bestWithoutOne 6 = .ok (.getfield 27, 3) := by decide +kernel
theorem dX1_bestWithoutOne_9 : decode cX1_bestWithoutOne 9 = .ok (.if_icmp .ge 34, 3) := by decide +kernel
theorem dX1_bestWithoutOne_12 : decode cX1_bestWithoutOne 12 = .ok (.iload_n 1, 1) := by decide +kernel
theorem dX1_bestWithoutOne_13 : decode cX1_bestWithoutOne 13 = .ok (.iload_n 3, 1) := by decide +kernel
theorem dX1_bestWithoutOne_14 : decode cX1_bestWithoutOne 14 = .ok (.invokestatic 60, 3) := by decide +kernel
theorem dX1_bestWithoutOne_17 : decode cX1_bestWithoutOne 17 = .ok (.ifCond .eq 20, 3) := by decide +kernel
theorem dX1_bestWithoutOne_20 : decode cX1_bestWithoutOne 20 = .ok (.iload_n 2, 1) := by decide +kernel
theorem dX1_bestWithoutOne_21 : decode cX1_bestWithoutOne 21 = .ok (.aload_n 0, 1) := by decide +kernel
theorem dX1_bestWithoutOne_22 : decode cX1_bestWithoutOne 22 = .ok (.getfield 18, 3) := by decide +kernel
theorem dX1_bestWithoutOne_25 : decode cX1_bestWithoutOne 25 = .ok (.iload_n 1, 1) := by decide +kernel
theorem dX1_bestWithoutOne_26 : decode cX1_bestWithoutOne 26 = .ok (.iconst 1, 1) := by decide +kernel
theorem dX1_bestWithoutOne_27 : decode cX1_bestWithoutOne 27 = .ok (.iload_n 3, 1) := by decide +kernel
theorem dX1_bestWithoutOne_28 : decode cX1_bestWithoutOne 28 = .ok (.ishl, 1) := by decide +kernel
theorem dX1_bestWithoutOne_29 : decode cX1_bestWithoutOne 29 = .ok (.iconst (-1), 1) := by decide +kernel
theorem dX1_bestWithoutOne_30 : decode cX1_bestWithoutOne 30 = .ok (.ixor, 1) := by decide +kernel
theorem dX1_bestWithoutOne_31 : decode cX1_bestWithoutOne 31 = .ok (.iand, 1) := by decide +kernel
theorem dX1_bestWithoutOne_32 : decode cX1_bestWithoutOne 32 = .ok (.iaload, 1) := by decide +kernel
theorem dX1_bestWithoutOne_33 : decode cX1_bestWithoutOne 33 = .ok (.invokestatic 86, 3) := by decide +kernel
theorem dX1_bestWithoutOne_36 : decode cX1_bestWithoutOne 36 = .ok (.istore_n 2, 1) := by decide +kernel
theorem dX1_bestWithoutOne_37 : decode cX1_bestWithoutOne 37 = .ok (.iinc 3 1, 3) := by decide +kernel
theorem dX1_bestWithoutOne_40 : decode cX1_bestWithoutOne 40 = .ok (.goto (-36), 3) := by decide +kernel
theorem dX1_bestWithoutOne_43 : decode cX1_bestWithoutOne 43 = .ok (.iload_n 2, 1) := by decide +kernel
theorem dX1_bestWithoutOne_44 : decode cX1_bestWithoutOne 44 = .ok (.ireturn, 1) := by decide +kernel
theorem dX1_writeFirstRow_0 : decode cX1_writeFirstRow 0 = .ok (.aload_n 0, 1) := by decide +kernel
theorem dX1_writeFirstRow_1 : decode cX1_writeFirstRow 1 = .ok (.getfield 31, 3) := by decide +kernel
theorem dX1_writeFirstRow_4 : decode cX1_writeFirstRow 4 = .ok (.istore_n 3, 1) := by decide +kernel
theorem dX1_writeFirstRow_5 : decode cX1_writeFirstRow 5 = .ok (.aload_n 0, 1) := by decide +kernel
theorem dX1_writeFirstRow_6 : decode cX1_writeFirstRow 6 = .ok (.getfield 34, 3) := by decide +kernel
theorem dX1_writeFirstRow_9 : decode cX1_writeFirstRow 9 = .ok (.istore 4, 2) := by decide +kernel
theorem dX1_writeFirstRow_11 : decode cX1_writeFirstRow 11 = .ok (.iconst 0, 1) := by decide +kernel
theorem dX1_writeFirstRow_12 : decode cX1_writeFirstRow 12 = .ok (.istore 5, 2) := by decide +kernel
theorem dX1_writeFirstRow_14 : decode cX1_writeFirstRow 14 = .ok (.iload 5, 2) := by decide +kernel
theorem dX1_writeFirstRow_16 : decode cX1_writeFirstRow 16 = .ok (.iload_n 2, 1) := by decide +kernel
theorem dX1_writeFirstRow_17 : decode cX1_writeFirstRow 17 = .ok (.if_icmp .ge 67, 3) := by decide +kernel
theorem dX1_writeFirstRow_20 : decode cX1_writeFirstRow 20 = .ok (.iload 5, 2) := by decide +kernel
theorem dX1_writeFirstRow_22 : decode cX1_writeFirstRow 22 = .ok (.aload_n 1, 1) := by decide +kernel
theorem dX1_writeFirstRow_23 : decode cX1_writeFirstRow 23 = .ok (.arraylength, 1) := by decide +kernel
theorem dX1_writeFirstRow_24 : decode cX1_writeFirstRow 24 = .ok (.if_icmp .ge 60, 3) := by decide +kernel
theorem dX1_writeFirstRow_27 : decode cX1_writeFirstRow 27 = .ok (.aload_n 0, 1) := by decide +kernel
theorem dX1_writeFirstRow_28 : decode cX1_writeFirstRow 28 = .ok (.iload_n 3, 1) := by decide +kernel
theorem dX1_writeFirstRow_29 : decode cX1_writeFirstRow 29 = .ok (.iload_n 2, 1) := by decide +kernel
theorem dX1_writeFirstRow_30 : decode cX1_writeFirstRow 30 = .ok (.iload 5, 2) := by decide +kernel
theorem dX1_writeFirstRow_32 : decode cX1_writeFirstRow 32 = .ok (.isub, 1) := by decide +kernel
theorem dX1_writeFirstRow_33 : decode cX1_writeFirstRow 33 = .ok (.invokevirtual 92, 3) := by decide +kernel
theorem dX1_writeFirstRow_36 : decode cX1_writeFirstRow 36 = .ok (.iload 4, 2) := by decide +kernel
theorem dX1_writeFirstRow_38 : decode cX1_writeFirstRow 38 = .ok (.iand, 1) := by decide +kernel
theorem dX1_writeFirstRow_39 : decode cX1_writeFirstRow 39 = .ok (.invokestatic 95, 3) := by decide +kernel
theorem dX1_writeFirstRow_42 : decode cX1_writeFirstRow 42 = .ok (.istore 6, 2) := by decide +kernel
theorem dX1_writeFirstRow_44 : decode cX1_writeFirstRow 44 = .ok (.iload 6, 2) := by decide +kernel
theorem dX1_writeFirstRow_46 : decode cX1_writeFirstRow 46 = .ok (.aload_n 0, 1) := by decide +kernel
theorem dX1_writeFirstRow_47 : decode cX1_writeFirstRow 47 = .ok (.getfield 27, 3) := by decide +kernel
theorem dX1_writeFirstRow_50 : decode cX1_writeFirstRow 50 = .ok (.if_icmp .lt 4, 3) := by decide +kernel
theorem dX1_writeFirstRow_53 : decode cX1_writeFirstRow 53 = .ok (.return_, 1) := by decide +kernel
theorem dX1_writeFirstRow_54 : decode cX1_writeFirstRow 54 = .ok (.aload_n 1, 1) := by decide +kernel
theorem dX1_writeFirstRow_55 : decode cX1_writeFirstRow 55 = .ok (.iload 5, 2) := by decide +kernel
theorem dX1_writeFirstRow_57 : decode cX1_writeFirstRow 57 = .ok (.iload 6, 2) := by decide +kernel
theorem dX1_writeFirstRow_59 : decode cX1_writeFirstRow 59 = .ok (.iastore, 1) := by decide +kernel
theorem dX1_writeFirstRow_60 : decode cX1_writeFirstRow 60 = .ok (.iload_n 3, 1) := by decide +kernel
theorem dX1_writeFirstRow_61 : decode cX1_writeFirstRow 61 = .ok (.iconst 1, 1) := by decide +kernel
theorem dX1_writeFirstRow_62 : decode cX1_writeFirstRow 62 = .ok (.iload 6, 2) := by decide +kernel
theorem dX1_writeFirstRow_64 : decode cX1_writeFirstRow 64 = .ok (.ishl, 1) := by decide +kernel
theorem dX1_writeFirstRow_65 : decode cX1_writeFirstRow 65 = .ok (.iconst (-1), 1) := by decide +kernel
theorem dX1_writeFirstRow_66 : decode cX1_writeFirstRow 66 = .ok (.ixor, 1) := by decide +kernel
theorem dX1_writeFirstRow_67 : decode cX1_writeFirstRow 67 = .ok (.iand, 1) := by decide +kernel
theorem dX1_writeFirstRow_68 : decode cX1_writeFirstRow 68 = .ok (.istore_n 3, 1) := by decide +kernel
theorem dX1_writeFirstRow_69 : decode cX1_writeFirstRow 69 = .ok (.aload_n 0, 1) := by decide +kernel
theorem dX1_writeFirstRow_70 : decode cX1_writeFirstRow 70 = .ok (.getfield 9, 3) := by decide +kernel
theorem dX1_writeFirstRow_73 : decode cX1_writeFirstRow 73 = .ok (.iload 6, 2) := by decide +kernel
theorem dX1_writeFirstRow_75 : decode cX1_writeFirstRow 75 = .ok (.iaload, 1) := by decide +kernel
theorem dX1_writeFirstRow_76 : decode cX1_writeFirstRow 76 = .ok (.istore 4, 2) := by decide +kernel
theorem dX1_writeFirstRow_78 : decode cX1_writeFirstRow 78 = .ok (.iinc 5 1, 3) := by decide +kernel
theorem dX1_writeFirstRow_81 : decode cX1_writeFirstRow 81 = .ok (.goto (-67), 3) := by decide +kernel
theorem dX1_writeFirstRow_84 : decode cX1_writeFirstRow 84 = .ok (.return_, 1) := by decide +kernel
theorem dX1_firstsOf_0 : decode cX1_firstsOf 0 = .ok (.iconst 0, 1) := by decide +kernel
theorem dX1_firstsOf_1 : decode cX1_firstsOf 1 = .ok (.istore_n 3, 1) := by decide +kernel
theorem dX1_firstsOf_2 : decode cX1_firstsOf 2 = .ok (.iconst 1, 1) := by decide +kernel
theorem dX1_firstsOf_3 : decode cX1_firstsOf 3 = .ok (.istore 4, 2) := by decide +kernel
theorem dX1_firstsOf_5 : decode cX1_firstsOf 5 = .ok (.iload 4, 2) := by decide +kernel
theorem dX1_firstsOf_7 : decode cX1_firstsOf 7 = .ok (.iload_n 1, 1) := by decide +kernel
theorem dX1_firstsOf_8 : decode cX1_firstsOf 8 = .ok (.if_icmp .gt 37, 3) := by decide +kernel
theorem dX1_firstsOf_11 : decode cX1_firstsOf 11 = .ok (.iload 4, 2) := by decide +kernel
theorem dX1_firstsOf_13 : decode cX1_firstsOf 13 = .ok (.iload_n 1, 1) := by decide +kernel
theorem dX1_firstsOf_14 : decode cX1_firstsOf 14 = .ok (.iconst (-1), 1) := by decide +kernel
theorem dX1_firstsOf_15 : decode cX1_firstsOf 15 = .ok (.ixor, 1) := by decide +kernel
theorem dX1_firstsOf_16 : decode cX1_firstsOf 16 = .ok (.iand, 1) := by decide +kernel
theorem dX1_firstsOf_17 : decode cX1_firstsOf 17 = .ok (.ifCond .ne 22, 3) := by decide +kernel
theorem dX1_firstsOf_20 : decode cX1_firstsOf 20 = .ok (.iload 4, 2) := by decide +kernel
theorem dX1_firstsOf_22 : decode cX1_firstsOf 22 = .ok (.invokestatic 67, 3) := by decide +kernel
theorem dX1_firstsOf_25 : decode cX1_firstsOf 25 = .ok (.iload_n 2, 1) := by decide +kernel
theorem dX1_firstsOf_26 : decode cX1_firstsOf 26 = .ok (.if_icmp .ne 13, 3) := by decide +kernel
theorem dX1_firstsOf_29 : decode cX1_firstsOf 29 = .ok (.iload_n 3, 1) := by decide +kernel
theorem dX1_firstsOf_30 : decode cX1_firstsOf 30 = .ok (.aload_n 0, 1) := by decide +kernel
theorem dX1_firstsOf_31 : decode cX1_firstsOf 31 = .ok (.getfield 15, 3) := by decide +kernel
theorem dX1_firstsOf_34 : decode cX1_firstsOf 34 = .ok (.iload 4, 2) := by decide +kernel
theorem dX1_firstsOf_36 : decode cX1_firstsOf 36 = .ok (.iaload, 1) := by decide +kernel
theorem dX1_firstsOf_37 : decode cX1_firstsOf 37 = .ok (.ior, 1) := by decide +kernel
theorem dX1_firstsOf_38 : decode cX1_firstsOf 38 = .ok (.istore_n 3, 1) := by decide +kernel
theorem dX1_firstsOf_39 : decode cX1_firstsOf 39 = .ok (.iinc 4 1, 3) := by decide +kernel
theorem dX1_firstsOf_42 : decode cX1_firstsOf 42 = .ok (.goto (-37), 3) := by decide +kernel
theorem dX1_firstsOf_45 : decode cX1_firstsOf 45 = .ok (.iload_n 3, 1) := by decide +kernel
theorem dX1_firstsOf_46 : decode cX1_firstsOf 46 = .ok (.ireturn, 1) := by decide +kernel
theorem dX1_ordersOfAll_0 : decode cX1_ordersOfAll 0 = .ok (.aload_n 0, 1) := by decide +kernel
theorem dX1_ordersOfAll_1 : decode cX1_ordersOfAll 1 = .ok (.getfield 31, 3) := by decide +kernel
theorem dX1_ordersOfAll_4 : decode cX1_ordersOfAll 4 = .ok (.ifCond .ne 5, 3) := by decide +kernel
theorem dX1_ordersOfAll_7 : decode cX1_ordersOfAll 7 = .ok (.iconst 1, 1) := by decide +kernel
theorem dX1_ordersOfAll_8 : decode cX1_ordersOfAll 8 = .ok (.ireturn, 1) := by decide +kernel
theorem dX1_ordersOfAll_9 : decode cX1_ordersOfAll 9 = .ok (.iconst 1, 1) := by decide +kernel
theorem dX1_ordersOfAll_10 : decode cX1_ordersOfAll 10 = .ok (.istore_n 1, 1) := by decide +kernel
theorem dX1_ordersOfAll_11 : decode cX1_ordersOfAll 11 = .ok (.iload_n 1, 1) := by decide +kernel
theorem dX1_ordersOfAll_12 : decode cX1_ordersOfAll 12 = .ok (.aload_n 0, 1) := by decide +kernel
theorem dX1_ordersOfAll_13 : decode cX1_ordersOfAll 13 = .ok (.getfield 31, 3) := by decide +kernel
theorem dX1_ordersOfAll_16 : decode cX1_ordersOfAll 16 = .ok (.if_icmp .gt 22, 3) := by decide +kernel
theorem dX1_ordersOfAll_19 : decode cX1_ordersOfAll 19 = .ok (.aload_n 0, 1) := by decide +kernel
theorem dX1_ordersOfAll_20 : decode cX1_ordersOfAll 20 = .ok (.iload_n 1, 1) := by decide +kernel
theorem dX1_ordersOfAll_21 : decode cX1_ordersOfAll 21 = .ok (.invokevirtual 73, 3) := by decide +kernel
theorem dX1_ordersOfAll_24 : decode cX1_ordersOfAll 24 = .ok (.ifCond .eq 8, 3) := by decide +kernel
theorem dX1_ordersOfAll_27 : decode cX1_ordersOfAll 27 = .ok (.aload_n 0, 1) := by decide +kernel
theorem dX1_ordersOfAll_28 : decode cX1_ordersOfAll 28 = .ok (.iload_n 1, 1) := by decide +kernel
theorem dX1_ordersOfAll_29 : decode cX1_ordersOfAll 29 = .ok (.invokevirtual 98, 3) := by decide +kernel
theorem dX1_ordersOfAll_32 : decode cX1_ordersOfAll 32 = .ok (.iinc 1 1, 3) := by decide +kernel
theorem dX1_ordersOfAll_35 : decode cX1_ordersOfAll 35 = .ok (.goto (-24), 3) := by decide +kernel
theorem dX1_ordersOfAll_38 : decode cX1_ordersOfAll 38 = .ok (.aload_n 0, 1) := by decide +kernel
theorem dX1_ordersOfAll_39 : decode cX1_ordersOfAll 39 = .ok (.aload_n 0, 1) := by decide +kernel
theorem dX1_ordersOfAll_40 : decode cX1_ordersOfAll 40 = .ok (.getfield 31, 3) := by decide +kernel
theorem dX1_ordersOfAll_43 : decode cX1_ordersOfAll 43 = .ok (.aload_n 0, 1) := by decide +kernel
theorem dX1_ordersOfAll_44 : decode cX1_ordersOfAll 44 = .ok (.getfield 34, 3) := by decide +kernel
theorem dX1_ordersOfAll_47 : decode cX1_ordersOfAll 47 = .ok (.invokevirtual 102, 3) := by decide +kernel
theorem dX1_ordersOfAll_50 : decode cX1_ordersOfAll 50 = .ok (.ireturn, 1) := by decide +kernel
theorem dX1_countWays_0 : decode cX1_countWays 0 = .ok (.iconst 0, 1) := by decide +kernel
theorem dX1_countWays_1 : decode cX1_countWays 1 = .ok (.istore_n 2, 1) := by decide +kernel
theorem dX1_countWays_2 : decode cX1_countWays 2 = .ok (.iload_n 2, 1) := by decide +kernel
theorem dX1_countWays_3 : decode cX1_countWays 3 = .ok (.aload_n 0, 1) := by decide +kernel
theorem dX1_countWays_4 : decode cX1_countWays 4 = .ok (.getfield 27, 3) := by decide +kernel
theorem dX1_countWays_7 : decode cX1_countWays 7 = .ok (.if_icmp .ge 55, 3) := by decide +kernel
theorem dX1_countWays_10 : decode cX1_countWays 10 = .ok (.iload_n 1, 1) := by decide +kernel
theorem dX1_countWays_11 : decode cX1_countWays 11 = .ok (.iload_n 2, 1) := by decide +kernel
theorem dX1_countWays_12 : decode cX1_countWays 12 = .ok (.invokestatic 60, 3) := by decide +kernel
theorem dX1_countWays_15 : decode cX1_countWays 15 = .ok (.ifCond .eq 41, 3) := by decide +kernel
theorem dX1_countWays_18 : decode cX1_countWays 18 = .ok (.iload_n 1, 1) := by decide +kernel
theorem dX1_countWays_19 : decode cX1_countWays 19 = .ok (.iconst 1, 1) := by decide +kernel
theorem dX1_countWays_20 : decode cX1_countWays 20 = .ok (.iload_n 2, 1) := by decide +kernel
theorem dX1_countWays_21 : decode cX1_countWays 21 = .ok (.ishl, 1) := by decide +kernel
theorem dX1_countWays_22 : decode cX1_countWays 22 = .ok (.iconst (-1), 1) := by decide +kernel
theorem dX1_countWays_23 : decode cX1_countWays 23 = .ok (.ixor, 1) := by decide +kernel
theorem dX1_countWays_24 : decode cX1_countWays 24 = .ok (.iand, 1) := by decide +kernel
theorem dX1_countWays_25 : decode cX1_countWays 25 = .ok (.istore_n 3, 1) := by decide +kernel
theorem dX1_countWays_26 : decode cX1_countWays 26 = .ok (.aload_n 0, 1) := by decide +kernel
theorem dX1_countWays_27 : decode cX1_countWays 27 = .ok (.getfield 24, 3) := by decide +kernel
theorem dX1_countWays_30 : decode cX1_countWays 30 = .ok (.iload_n 1, 1) := by decide +kernel
theorem dX1_countWays_31 : decode cX1_countWays 31 = .ok (.bipush 7, 2) := by decide +kernel
theorem dX1_countWays_33 : decode cX1_countWays 33 = .ok (.imul, 1) := by decide +kernel
theorem dX1_countWays_34 : decode cX1_countWays 34 = .ok (.iload_n 2, 1) := by decide +kernel
theorem dX1_countWays_35 : decode cX1_countWays 35 = .ok (.iadd, 1) := by decide +kernel
theorem dX1_countWays_36 : decode cX1_countWays 36 = .ok (.iload_n 3, 1) := by decide +kernel
theorem dX1_countWays_37 : decode cX1_countWays 37 = .ok (.ifCond .ne 7, 3) := by decide +kernel
theorem dX1_countWays_40 : decode cX1_countWays 40 = .ok (.iconst 1, 1) := by decide +kernel
theorem dX1_countWays_41 : decode cX1_countWays 41 = .ok (.goto 14, 3) := by decide +kernel
theorem dX1_countWays_44 : decode cX1_countWays 44 = .ok (.aload_n 0, 1) := by decide +kernel
theorem dX1_countWays_45 : decode cX1_countWays 45 = .ok (.iload_n 3, 1) := by decide +kernel
theorem dX1_countWays_46 : decode cX1_countWays 46 = .ok (.aload_n 0, 1) := by decide +kernel
theorem dX1_countWays_47 : decode cX1_countWays 47 = .ok (.getfield 9, 3) := by decide +kernel
theorem dX1_countWays_50 : decode cX1_countWays 50 = .ok (.iload_n 2, 1) := by decide +kernel
theorem dX1_countWays_51 : decode cX1_countWays 51 = .ok (.iaload, 1) := by decide +kernel
theorem dX1_countWays_52 : decode cX1_countWays 52 = .ok (.invokevirtual 102, 3) := by decide +kernel
theorem dX1_countWays_55 : decode cX1_countWays 55 = .ok (.iastore, 1) := by decide +kernel
theorem dX1_countWays_56 : decode cX1_countWays 56 = .ok (.iinc 2 1, 3) := by decide +kernel
theorem dX1_countWays_59 : decode cX1_countWays 59 = .ok (.goto (-57), 3) := by decide +kernel
theorem dX1_countWays_62 : decode cX1_countWays 62 = .ok (.return_, 1) := by decide +kernel
theorem dX1_waysFrom_0 : decode cX1_waysFrom 0 = .ok (.iconst 0, 1) := by decide +kernel
theorem dX1_waysFrom_1 : decode cX1_waysFrom 1 = .ok (.istore_n 3, 1) := by decide +kernel
theorem dX1_waysFrom_2 : decode cX1_waysFrom 2 = .ok (.iconst 0, 1) := by decide +kernel
theorem dX1_waysFrom_3 : decode cX1_waysFrom 3 = .ok (.istore 4, 2) := by decide +kernel
theorem dX1_waysFrom_5 : decode cX1_waysFrom 5 = .ok (.iload 4, 2) := by decide +kernel
theorem dX1_waysFrom_7 : decode cX1_waysFrom 7 = .ok (.aload_n 0, 1) := by decide +kernel
theorem dX1_waysFrom_8 : decode cX1_waysFrom 8 = .ok (.getfield 27, 3) := by decide +kernel
theorem dX1_waysFrom_11 : decode cX1_waysFrom 11 = .ok (.if_icmp .ge 35, 3) := by decide +kernel
theorem dX1_waysFrom_14 : decode cX1_waysFrom 14 = .ok (.iload_n 1, 1) := by decide +kernel
theorem dX1_waysFrom_15 : decode cX1_waysFrom 15 = .ok (.iload_n 2, 1) := by decide +kernel
theorem dX1_waysFrom_16 : decode cX1_waysFrom 16 = .ok (.iand, 1) := by decide +kernel
theorem dX1_waysFrom_17 : decode cX1_waysFrom 17 = .ok (.iload 4, 2) := by decide +kernel
theorem dX1_waysFrom_19 : decode cX1_waysFrom 19 = .ok (.invokestatic 60, 3) := by decide +kernel
theorem dX1_waysFrom_22 : decode cX1_waysFrom 22 = .ok (.ifCond .eq 18, 3) := by decide +kernel
theorem dX1_waysFrom_25 : decode cX1_waysFrom 25 = .ok (.iload_n 3, 1) := by decide +kernel
theorem dX1_waysFrom_26 : decode cX1_waysFrom 26 = .ok (.aload_n 0, 1) := by decide +kernel
theorem dX1_waysFrom_27 : decode cX1_waysFrom 27 = .ok (.getfield 24, 3) := by decide +kernel
theorem dX1_waysFrom_30 : decode cX1_waysFrom 30 = .ok (.iload_n 1, 1) := by decide +kernel
theorem dX1_waysFrom_31 : decode cX1_waysFrom 31 = .ok (.bipush 7, 2) := by decide +kernel
theorem dX1_waysFrom_33 : decode cX1_waysFrom 33 = .ok (.imul, 1) := by decide +kernel
theorem dX1_waysFrom_34 : decode cX1_waysFrom 34 = .ok (.iload 4, 2) := by decide +kernel
theorem dX1_waysFrom_36 : decode cX1_waysFrom 36 = .ok (.iadd, 1) := by decide +kernel
theorem dX1_waysFrom_37 : decode cX1_waysFrom 37 = .ok (.iaload, 1) := by decide +kernel
theorem dX1_waysFrom_38 : decode cX1_waysFrom 38 = .ok (.iadd, 1) := by decide +kernel
theorem dX1_waysFrom_39 : decode cX1_waysFrom 39 = .ok (.istore_n 3, 1) := by decide +kernel
theorem dX1_waysFrom_40 : decode cX1_waysFrom 40 = .ok (.iinc 4 1, 3) := by decide +kernel
theorem dX1_waysFrom_43 : decode cX1_waysFrom 43 = .ok (.goto (-38), 3) := by decide +kernel
theorem dX1_waysFrom_46 : decode cX1_waysFrom 46 = .ok (.iload_n 3, 1) := by decide +kernel
theorem dX1_waysFrom_47 : decode cX1_waysFrom 47 = .ok (.ireturn, 1) := by decide +kernel
theorem dX1_winningGoer_0 : decode cX1_winningGoer 0 = .ok (.iconst 0, 1) := by decide +kernel
theorem dX1_winningGoer_1 : decode cX1_winningGoer 1 = .ok (.istore_n 1, 1) := by decide +kernel
theorem dX1_winningGoer_2 : decode cX1_winningGoer 2 = .ok (.iload_n 1, 1) := by decide +kernel
theorem dX1_winningGoer_3 : decode cX1_winningGoer 3 = .ok (.aload_n 0, 1) := by decide +kernel
theorem dX1_winningGoer_4 : decode cX1_winningGoer 4 = .ok (.getfield 31, 3) := by decide +kernel
theorem dX1_winningGoer_7 : decode cX1_winningGoer 7 = .ok (.if_icmp .ge 28, 3) := by decide +kernel
theorem dX1_winningGoer_10 : decode cX1_winningGoer 10 = .ok (.aload_n 0, 1) := by decide +kernel
theorem dX1_winningGoer_11 : decode cX1_winningGoer 11 = .ok (.iload_n 1, 1) := by decide +kernel
theorem dX1_winningGoer_12 : decode cX1_winningGoer 12 = .ok (.invokevirtual 73, 3) := by decide +kernel
theorem dX1_winningGoer_15 : decode cX1_winningGoer 15 = .ok (.ifCond .eq 14, 3) := by decide +kernel
theorem dX1_winningGoer_18 : decode cX1_winningGoer 18 = .ok (.aload_n 0, 1) := by decide +kernel
theorem dX1_winningGoer_19 : decode cX1_winningGoer 19 = .ok (.getfield 21, 3) := by decide +kernel
theorem dX1_winningGoer_22 : decode cX1_winningGoer 22 = .ok (.iload_n 1, 1) := by decide +kernel
theorem dX1_winningGoer_23 : decode cX1_winningGoer 23 = .ok (.aload_n 0, 1) := by decide +kernel
theorem dX1_winningGoer_24 : decode cX1_winningGoer 24 = .ok (.iload_n 1, 1) := by decide +kernel
theorem dX1_winningGoer_25 : decode cX1_winningGoer 25 = .ok (.invokevirtual 105, 3) := by decide +kernel
theorem dX1_winningGoer_28 : decode cX1_winningGoer 28 = .ok (.iastore, 1) := by decide +kernel
theorem dX1_winningGoer_29 : decode cX1_winningGoer 29 = .ok (.iinc 1 1, 3) := by decide +kernel
theorem dX1_winningGoer_32 : decode cX1_winningGoer 32 = .ok (.goto (-30), 3) := by decide +kernel
theorem dX1_winningGoer_35 : decode cX1_winningGoer 35 = .ok (.aload_n 0, 1) := by decide +kernel
theorem dX1_winningGoer_36 : decode cX1_winningGoer 36 = .ok (.aload_n 0, 1) := by decide +kernel
theorem dX1_winningGoer_37 : decode cX1_winningGoer 37 = .ok (.getfield 31, 3) := by decide +kernel
theorem dX1_winningGoer_40 : decode cX1_winningGoer 40 = .ok (.aload_n 0, 1) := by decide +kernel
theorem dX1_winningGoer_41 : decode cX1_winningGoer 41 = .ok (.getfield 34, 3) := by decide +kernel
theorem dX1_winningGoer_44 : decode cX1_winningGoer 44 = .ok (.invokevirtual 108, 3) := by decide +kernel
theorem dX1_winningGoer_47 : decode cX1_winningGoer 47 = .ok (.ireturn, 1) := by decide +kernel
theorem dX1_winnersAt_0 : decode cX1_winnersAt 0 = .ok (.iconst 0, 1) := by decide +kernel
theorem dX1_winnersAt_1 : decode cX1_winnersAt 1 = .ok (.istore_n 2, 1) := by decide +kernel
theorem dX1_winnersAt_2 : decode cX1_winnersAt 2 = .ok (.iconst 0, 1) := by decide +kernel
theorem dX1_winnersAt_3 : decode cX1_winnersAt 3 = .ok (.istore_n 3, 1) := by decide +kernel
theorem dX1_winnersAt_4 : decode cX1_winnersAt 4 = .ok (.iload_n 3, 1) := by decide +kernel
theorem dX1_winnersAt_5 : decode cX1_winnersAt 5 = .ok (.aload_n 0, 1) := by decide +kernel
theorem dX1_winnersAt_6 : decode cX1_winnersAt 6 = .ok (.getfield 27, 3) := by decide +kernel
theorem dX1_winnersAt_9 : decode cX1_winnersAt 9 = .ok (.if_icmp .ge 46, 3) := by decide +kernel
theorem dX1_winnersAt_12 : decode cX1_winnersAt 12 = .ok (.aload_n 0, 1) := by decide +kernel
theorem dX1_winnersAt_13 : decode cX1_winnersAt 13 = .ok (.getfield 31, 3) := by decide +kernel
theorem dX1_winnersAt_16 : decode cX1_winnersAt 16 = .ok (.iload_n 1, 1) := by decide +kernel
theorem dX1_winnersAt_17 : decode cX1_winnersAt 17 = .ok (.iconst (-1), 1) := by decide +kernel
theorem dX1_winnersAt_18 : decode cX1_winnersAt 18 = .ok (.ixor, 1) := by decide +kernel
theorem dX1_winnersAt_19 : decode cX1_winnersAt 19 = .ok (.iand, 1) := by decide +kernel
theorem dX1_winnersAt_20 : decode cX1_winnersAt 20 = .ok (.iload_n 3, 1) := by decide +kernel
theorem dX1_winnersAt_21 : decode cX1_winnersAt 21 = .ok (.invokestatic 60, 3) := by decide +kernel
theorem dX1_winnersAt_24 : decode cX1_winnersAt 24 = .ok (.ifCond .eq 25, 3) := by decide +kernel
theorem dX1_winnersAt_27 : decode cX1_winnersAt 27 = .ok (.aload_n 0, 1) := by decide +kernel
theorem dX1_winnersAt_28 : decode cX1_winnersAt 28 = .ok (.iload_n 1, 1) := by decide +kernel
theorem dX1_winnersAt_29 : decode cX1_winnersAt 29 = .ok (.aload_n 0, 1) := by decide +kernel
theorem dX1_winnersAt_30 : decode cX1_winnersAt 30 = .ok (.getfield 9, 3) := by decide +kernel
theorem dX1_winnersAt_33 : decode cX1_winnersAt 33 = .ok (.iload_n 3, 1) := by decide +kernel
theorem dX1_winnersAt_34 : decode cX1_winnersAt 34 = .ok (.iaload, 1) := by decide +kernel
theorem dX1_winnersAt_35 : decode cX1_winnersAt 35 = .ok (.invokevirtual 108, 3) := by decide +kernel
theorem dX1_winnersAt_38 : decode cX1_winnersAt 38 = .ok (.bipush (-9), 2) := by decide +kernel
theorem dX1_winnersAt_40 : decode cX1_winnersAt 40 = .ok (.if_icmp .eq 9, 3) := by decide +kernel
theorem dX1_winnersAt_43 : decode cX1_winnersAt 43 = .ok (.iload_n 2, 1) := by decide +kernel
theorem dX1_winnersAt_44 : decode cX1_winnersAt 44 = .ok (.iconst 1, 1) := by decide +kernel
theorem dX1_winnersAt_45 : decode cX1_winnersAt 45 = .ok (.iload_n 3, 1) := by decide +kernel
theorem dX1_winnersAt_46 : decode cX1_winnersAt 46 = .ok (.ishl, 1) := by decide +kernel
theorem dX1_winnersAt_47 : decode cX1_winnersAt 47 = .ok (.ior, 1) := by decide +kernel
theorem dX1_winnersAt_48 : decode cX1_winnersAt 48 = .ok (.istore_n 2, 1) := by decide +kernel
theorem dX1_winnersAt_49 : decode cX1_winnersAt 49 = .ok (.iinc 3 1, 3) := by decide +kernel
theorem dX1_winnersAt_52 : decode cX1_winnersAt 52 = .ok (.goto (-48), 3) := by decide +kernel
theorem dX1_winnersAt_55 : decode cX1_winnersAt 55 = .ok (.iload_n 2, 1) := by decide +kernel
theorem dX1_winnersAt_56 : decode cX1_winnersAt 56 = .ok (.ireturn, 1) := by decide +kernel
theorem dX1_winningMove_0 : decode cX1_winningMove 0 = .ok (.iconst 0, 1) := by decide +kernel
theorem dX1_winningMove_1 : decode cX1_winningMove 1 = .ok (.istore_n 3, 1) := by decide +kernel
theorem dX1_winningMove_2 : decode cX1_winningMove 2 = .ok (.iload_n 3, 1) := by decide +kernel
theorem dX1_winningMove_3 : decode cX1_winningMove 3 = .ok (.aload_n 0, 1) := by decide +kernel
theorem dX1_winningMove_4 : decode cX1_winningMove 4 = .ok (.getfield 27, 3) := by decide +kernel
theorem dX1_winningMove_7 : decode cX1_winningMove 7 = .ok (.if_icmp .ge 40, 3) := by decide +kernel
theorem dX1_winningMove_10 : decode cX1_winningMove 10 = .ok (.iload_n 1, 1) := by decide +kernel
theorem dX1_winningMove_11 : decode cX1_winningMove 11 = .ok (.iload_n 2, 1) := by decide +kernel
theorem dX1_winningMove_12 : decode cX1_winningMove 12 = .ok (.iand, 1) := by decide +kernel
theorem dX1_winningMove_13 : decode cX1_winningMove 13 = .ok (.iload_n 3, 1) := by decide +kernel
theorem dX1_winningMove_14 : decode cX1_winningMove 14 = .ok (.invokestatic 60, 3) := by decide +kernel
theorem dX1_winningMove_17 : decode cX1_winningMove 17 = .ok (.ifCond .eq 24, 3) := by decide +kernel
theorem dX1_winningMove_20 : decode cX1_winningMove 20 = .ok (.aload_n 0, 1) := by decide +kernel
theorem dX1_winningMove_21 : decode cX1_winningMove 21 = .ok (.getfield 21, 3) := by decide +kernel
theorem dX1_winningMove_24 : decode cX1_winningMove 24 = .ok (.iload_n 1, 1) := by decide +kernel
theorem dX1_winningMove_25 : decode cX1_winningMove 25 = .ok (.iconst 1, 1) := by decide +kernel
theorem dX1_winningMove_26 : decode cX1_winningMove 26 = .ok (.iload_n 3, 1) := by decide +kernel
theorem dX1_winningMove_27 : decode cX1_winningMove 27 = .ok (.ishl, 1) := by decide +kernel
theorem dX1_winningMove_28 : decode cX1_winningMove 28 = .ok (.iconst (-1), 1) := by decide +kernel
theorem dX1_winningMove_29 : decode cX1_winningMove 29 = .ok (.ixor, 1) := by decide +kernel
theorem dX1_winningMove_30 : decode cX1_winningMove 30 = .ok (.iand, 1) := by decide +kernel
theorem dX1_winningMove_31 : decode cX1_winningMove 31 = .ok (.iaload, 1) := by decide +kernel
theorem dX1_winningMove_32 : decode cX1_winningMove 32 = .ok (.iload_n 3, 1) := by decide +kernel
theorem dX1_winningMove_33 : decode cX1_winningMove 33 = .ok (.invokestatic 60, 3) := by decide +kernel
theorem dX1_winningMove_36 : decode cX1_winningMove 36 = .ok (.ifCond .ne 5, 3) := by decide +kernel
theorem dX1_winningMove_39 : decode cX1_winningMove 39 = .ok (.iload_n 3, 1) := by decide +kernel
theorem dX1_winningMove_40 : decode cX1_winningMove 40 = .ok (.ireturn, 1) := by decide +kernel
theorem dX1_winningMove_41 : decode cX1_winningMove 41 = .ok (.iinc 3 1, 3) := by decide +kernel
theorem dX1_winningMove_44 : decode cX1_winningMove 44 = .ok (.goto (-42), 3) := by decide +kernel
theorem dX1_winningMove_47 : decode cX1_winningMove 47 = .ok (.bipush (-9), 2) := by decide +kernel
theorem dX1_winningMove_49 : decode cX1_winningMove 49 = .ok (.ireturn, 1) := by decide +kernel
theorem dX2_init_0 : decode cX2_init 0 = .ok (.aload_n 0, 1) := by decide +kernel
theorem dX2_init_1 : decode cX2_init 1 = .ok (.invokespecial 1, 3) := by decide +kernel
theorem dX2_init_4 : decode cX2_init 4 = .ok (.aload_n 0, 1) := by decide +kernel
theorem dX2_init_5 : decode cX2_init 5 = .ok (.iload_n 1, 1) := by decide +kernel
theorem dX2_init_6 : decode cX2_init 6 = .ok (.iload_n 2, 1) := by decide +kernel
theorem dX2_init_7 : decode cX2_init 7 = .ok (.multianewarray 7 2, 4) := by decide +kernel
theorem dX2_init_11 : decode cX2_init 11 = .ok (.putfield 9, 3) := by decide +kernel
theorem dX2_init_14 : decode cX2_init 14 = .ok (.aload_n 0, 1) := by decide +kernel
theorem dX2_init_15 : decode cX2_init 15 = .ok (.iload_n 1, 1) := by decide +kernel
theorem dX2_init_16 : decode cX2_init 16 = .ok (.newarray .int, 2) := by decide +kernel
theorem dX2_init_18 : decode cX2_init 18 = .ok (.putfield 14, 3) := by decide +kernel
theorem dX2_init_21 : decode cX2_init 21 = .ok (.aload_n 0, 1) := by decide +kernel
theorem dX2_init_22 : decode cX2_init 22 = .ok (.iload_n 2, 1) := by decide +kernel
theorem dX2_init_23 : decode cX2_init 23 = .ok (.putfield 18, 3) := by decide +kernel
theorem dX2_init_26 : decode cX2_init 26 = .ok (.aload_n 0, 1) := by decide +kernel
theorem dX2_init_27 : decode cX2_init 27 = .ok (.getfield 14, 3) := by decide +kernel
theorem dX2_init_30 : decode cX2_init 30 = .ok (.iconst (-1), 1) := by decide +kernel
theorem dX2_init_31 : decode cX2_init 31 = .ok (.invokestatic 22, 3) := by decide +kernel
theorem dX2_init_34 : decode cX2_init 34 = .ok (.return_, 1) := by decide +kernel
theorem dX2_numbers_0 : decode cX2_numbers 0 = .ok (.iload_n 1, 1) := by decide +kernel
theorem dX2_numbers_1 : decode cX2_numbers 1 = .ok (.ifCond .lt 16, 3) := by decide +kernel
theorem dX2_numbers_4 : decode cX2_numbers 4 = .ok (.iload_n 1, 1) := by decide +kernel
theorem dX2_numbers_5 : decode cX2_numbers 5 = .ok (.aload_n 0, 1) := by decide +kernel
theorem dX2_numbers_6 : decode cX2_numbers 6 = .ok (.getfield 14, 3) := by decide +kernel
theorem dX2_numbers_9 : decode cX2_numbers 9 = .ok (.arraylength, 1) := by decide +kernel
theorem dX2_numbers_10 : decode cX2_numbers 10 = .ok (.if_icmp .ge 7, 3) := by decide +kernel
theorem dX2_numbers_13 : decode cX2_numbers 13 = .ok (.iconst 1, 1) := by decide +kernel
theorem dX2_numbers_14 : decode cX2_numbers 14 = .ok (.goto 4, 3) := by decide +kernel
theorem dX2_numbers_17 : decode cX2_numbers 17 = .ok (.iconst 0, 1) := by decide +kernel
theorem dX2_numbers_18 : decode cX2_numbers 18 = .ok (.ireturn, 1) := by decide +kernel
theorem dX2_missing_0 : decode cX2_missing 0 = .ok (.aload_n 0, 1) := by decide +kernel
theorem dX2_missing_1 : decode cX2_missing 1 = .ok (.getfield 14, 3) := by decide +kernel
