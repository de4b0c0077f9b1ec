theorem dX4_mark_9 : decode cX4_mark 9 = .ok (.iconst 1, 1) := by decide +kernel
theorem dX4_mark_10 : decode cX4_mark 10 = .ok (.iconst 5, 1) := by decide +kernel
theorem dX4_mark_11 : decode cX4_mark 11 = .ok (.invokestatic 77, 3) := by decide +kernel
theorem dX4_mark_14 : decode cX4_mark 14 = .ok (.ifCond .ne 5, 3) := by decide +kernel
theorem dX4_mark_17 : decode cX4_mark 17 = .ok (.iconst (-1), 1) := by decide +kernel
theorem dX4_mark_18 : decode cX4_mark 18 = .ok (.ireturn, 1) := by decide +kernel
theorem dX4_mark_19 : decode cX4_mark 19 = .ok (.aload_n 0, 1) := by decide +kernel
theorem dX4_mark_20 : decode cX4_mark 20 = .ok (.getfield 33, 3) := by decide +kernel
theorem dX4_mark_23 : decode cX4_mark 23 = .ok (.iload_n 1, 1) := by decide +kernel
theorem dX4_mark_24 : decode cX4_mark 24 = .ok (.iaload, 1) := by decide +kernel
theorem dX4_mark_25 : decode cX4_mark 25 = .ok (.iload_n 2, 1) := by decide +kernel
theorem dX4_mark_26 : decode cX4_mark 26 = .ok (.if_icmp .eq 24, 3) := by decide +kernel
theorem dX4_mark_29 : decode cX4_mark 29 = .ok (.iload_n 2, 1) := by decide +kernel
theorem dX4_mark_30 : decode cX4_mark 30 = .ok (.iconst 4, 1) := by decide +kernel
theorem dX4_mark_31 : decode cX4_mark 31 = .ok (.if_icmp .ne 13, 3) := by decide +kernel
theorem dX4_mark_34 : decode cX4_mark 34 = .ok (.aload_n 0, 1) := by decide +kernel
theorem dX4_mark_35 : decode cX4_mark 35 = .ok (.getfield 33, 3) := by decide +kernel
theorem dX4_mark_38 : decode cX4_mark 38 = .ok (.iload_n 1, 1) := by decide +kernel
theorem dX4_mark_39 : decode cX4_mark 39 = .ok (.iaload, 1) := by decide +kernel
theorem dX4_mark_40 : decode cX4_mark 40 = .ok (.iconst 5, 1) := by decide +kernel
theorem dX4_mark_41 : decode cX4_mark 41 = .ok (.if_icmp .eq 9, 3) := by decide +kernel
theorem dX4_mark_44 : decode cX4_mark 44 = .ok (.aload_n 0, 1) := by decide +kernel
theorem dX4_mark_45 : decode cX4_mark 45 = .ok (.iconst 3, 1) := by decide +kernel
theorem dX4_mark_46 : decode cX4_mark 46 = .ok (.invokevirtual 85, 3) := by decide +kernel
theorem dX4_mark_49 : decode cX4_mark 49 = .ok (.ireturn, 1) := by decide +kernel
theorem dX4_mark_50 : decode cX4_mark 50 = .ok (.iload_n 2, 1) := by decide +kernel
theorem dX4_mark_51 : decode cX4_mark 51 = .ok (.iconst 3, 1) := by decide +kernel
theorem dX4_mark_52 : decode cX4_mark 52 = .ok (.if_icmp .le 30, 3) := by decide +kernel
theorem dX4_mark_55 : decode cX4_mark 55 = .ok (.iload_n 2, 1) := by decide +kernel
theorem dX4_mark_56 : decode cX4_mark 56 = .ok (.iconst 4, 1) := by decide +kernel
theorem dX4_mark_57 : decode cX4_mark 57 = .ok (.if_icmp .ne 11, 3) := by decide +kernel
theorem dX4_mark_60 : decode cX4_mark 60 = .ok (.aload_n 0, 1) := by decide +kernel
theorem dX4_mark_61 : decode cX4_mark 61 = .ok (.iload_n 1, 1) := by decide +kernel
theorem dX4_mark_62 : decode cX4_mark 62 = .ok (.invokevirtual 140, 3) := by decide +kernel
theorem dX4_mark_65 : decode cX4_mark 65 = .ok (.goto 13, 3) := by decide +kernel
theorem dX4_mark_68 : decode cX4_mark 68 = .ok (.aload_n 0, 1) := by decide +kernel
theorem dX4_mark_69 : decode cX4_mark 69 = .ok (.iload_n 1, 1) := by decide +kernel
theorem dX4_mark_70 : decode cX4_mark 70 = .ok (.invokevirtual 140, 3) := by decide +kernel
theorem dX4_mark_73 : decode cX4_mark 73 = .ok (.aload_n 0, 1) := by decide +kernel
theorem dX4_mark_74 : decode cX4_mark 74 = .ok (.invokevirtual 149, 3) := by decide +kernel
theorem dX4_mark_77 : decode cX4_mark 77 = .ok (.iand, 1) := by decide +kernel
theorem dX4_mark_78 : decode cX4_mark 78 = .ok (.invokestatic 153, 3) := by decide +kernel
theorem dX4_mark_81 : decode cX4_mark 81 = .ok (.ireturn, 1) := by decide +kernel
theorem dX4_mark_82 : decode cX4_mark 82 = .ok (.iconst 0, 1) := by decide +kernel
theorem dX4_mark_83 : decode cX4_mark 83 = .ok (.istore_n 3, 1) := by decide +kernel
theorem dX4_mark_84 : decode cX4_mark 84 = .ok (.iconst 0, 1) := by decide +kernel
theorem dX4_mark_85 : decode cX4_mark 85 = .ok (.istore 4, 2) := by decide +kernel
theorem dX4_mark_87 : decode cX4_mark 87 = .ok (.iload 4, 2) := by decide +kernel
theorem dX4_mark_89 : decode cX4_mark 89 = .ok (.aload_n 0, 1) := by decide +kernel
theorem dX4_mark_90 : decode cX4_mark 90 = .ok (.getfield 104, 3) := by decide +kernel
theorem dX4_mark_93 : decode cX4_mark 93 = .ok (.if_icmp .ge 97, 3) := by decide +kernel
theorem dX4_mark_96 : decode cX4_mark 96 = .ok (.aload_n 0, 1) := by decide +kernel
theorem dX4_mark_97 : decode cX4_mark 97 = .ok (.iload 4, 2) := by decide +kernel
theorem dX4_mark_99 : decode cX4_mark 99 = .ok (.invokevirtual 113, 3) := by decide +kernel
theorem dX4_mark_102 : decode cX4_mark 102 = .ok (.iload_n 1, 1) := by decide +kernel
theorem dX4_mark_103 : decode cX4_mark 103 = .ok (.invokestatic 123, 3) := by decide +kernel
theorem dX4_mark_106 : decode cX4_mark 106 = .ok (.istore 5, 2) := by decide +kernel
theorem dX4_mark_108 : decode cX4_mark 108 = .ok (.aload_n 0, 1) := by decide +kernel
theorem dX4_mark_109 : decode cX4_mark 109 = .ok (.iload 4, 2) := by decide +kernel
theorem dX4_mark_111 : decode cX4_mark 111 = .ok (.invokevirtual 134, 3) := by decide +kernel
theorem dX4_mark_114 : decode cX4_mark 114 = .ok (.iload_n 1, 1) := by decide +kernel
theorem dX4_mark_115 : decode cX4_mark 115 = .ok (.invokestatic 123, 3) := by decide +kernel
theorem dX4_mark_118 : decode cX4_mark 118 = .ok (.istore 6, 2) := by decide +kernel
theorem dX4_mark_120 : decode cX4_mark 120 = .ok (.iload_n 2, 1) := by decide +kernel
theorem dX4_mark_121 : decode cX4_mark 121 = .ok (.iconst 1, 1) := by decide +kernel
theorem dX4_mark_122 : decode cX4_mark 122 = .ok (.if_icmp .ne 16, 3) := by decide +kernel
theorem dX4_mark_125 : decode cX4_mark 125 = .ok (.iload 5, 2) := by decide +kernel
theorem dX4_mark_127 : decode cX4_mark 127 = .ok (.ifCond .ne 7, 3) := by decide +kernel
theorem dX4_mark_130 : decode cX4_mark 130 = .ok (.iconst 1, 1) := by decide +kernel
theorem dX4_mark_131 : decode cX4_mark 131 = .ok (.goto 32, 3) := by decide +kernel
theorem dX4_mark_134 : decode cX4_mark 134 = .ok (.iconst 0, 1) := by decide +kernel
theorem dX4_mark_135 : decode cX4_mark 135 = .ok (.goto 28, 3) := by decide +kernel
theorem dX4_mark_138 : decode cX4_mark 138 = .ok (.iload_n 2, 1) := by decide +kernel
theorem dX4_mark_139 : decode cX4_mark 139 = .ok (.iconst 2, 1) := by decide +kernel
theorem dX4_mark_140 : decode cX4_mark 140 = .ok (.if_icmp .ne 21, 3) := by decide +kernel
theorem dX4_mark_143 : decode cX4_mark 143 = .ok (.iload 6, 2) := by decide +kernel
theorem dX4_mark_145 : decode cX4_mark 145 = .ok (.ifCond .eq 12, 3) := by decide +kernel
theorem dX4_mark_148 : decode cX4_mark 148 = .ok (.iload 5, 2) := by decide +kernel
theorem dX4_mark_150 : decode cX4_mark 150 = .ok (.ifCond .ne 7, 3) := by decide +kernel
theorem dX4_mark_153 : decode cX4_mark 153 = .ok (.iconst 1, 1) := by decide +kernel
theorem dX4_mark_154 : decode cX4_mark 154 = .ok (.goto 9, 3) := by decide +kernel
theorem dX4_mark_157 : decode cX4_mark 157 = .ok (.iconst 0, 1) := by decide +kernel
theorem dX4_mark_158 : decode cX4_mark 158 = .ok (.goto 5, 3) := by decide +kernel
theorem dX4_mark_161 : decode cX4_mark 161 = .ok (.iload 6, 2) := by decide +kernel
theorem dX4_mark_163 : decode cX4_mark 163 = .ok (.istore 7, 2) := by decide +kernel
theorem dX4_mark_165 : decode cX4_mark 165 = .ok (.iload_n 3, 1) := by decide +kernel
theorem dX4_mark_166 : decode cX4_mark 166 = .ok (.iload 4, 2) := by decide +kernel
theorem dX4_mark_168 : decode cX4_mark 168 = .ok (.iload_n 1, 1) := by decide +kernel
theorem dX4_mark_169 : decode cX4_mark 169 = .ok (.if_icmp .eq 12, 3) := by decide +kernel
theorem dX4_mark_172 : decode cX4_mark 172 = .ok (.iload 7, 2) := by decide +kernel
theorem dX4_mark_174 : decode cX4_mark 174 = .ok (.ifCond .eq 7, 3) := by decide +kernel
theorem dX4_mark_177 : decode cX4_mark 177 = .ok (.iconst 1, 1) := by decide +kernel
theorem dX4_mark_178 : decode cX4_mark 178 = .ok (.goto 4, 3) := by decide +kernel
theorem dX4_mark_181 : decode cX4_mark 181 = .ok (.iconst 0, 1) := by decide +kernel
theorem dX4_mark_182 : decode cX4_mark 182 = .ok (.iadd, 1) := by decide +kernel
theorem dX4_mark_183 : decode cX4_mark 183 = .ok (.istore_n 3, 1) := by decide +kernel
theorem dX4_mark_184 : decode cX4_mark 184 = .ok (.iinc 4 1, 3) := by decide +kernel
theorem dX4_mark_187 : decode cX4_mark 187 = .ok (.goto (-100), 3) := by decide +kernel
theorem dX4_mark_190 : decode cX4_mark 190 = .ok (.iload_n 3, 1) := by decide +kernel
theorem dX4_mark_191 : decode cX4_mark 191 = .ok (.ireturn, 1) := by decide +kernel
theorem dX4_tells_0 : decode cX4_tells 0 = .ok (.aload_n 0, 1) := by decide +kernel
theorem dX4_tells_1 : decode cX4_tells 1 = .ok (.iload_n 1, 1) := by decide +kernel
theorem dX4_tells_2 : decode cX4_tells 2 = .ok (.invokevirtual 143, 3) := by decide +kernel
theorem dX4_tells_5 : decode cX4_tells 5 = .ok (.ifCond .eq 25, 3) := by decide +kernel
theorem dX4_tells_8 : decode cX4_tells 8 = .ok (.aload_n 0, 1) := by decide +kernel
theorem dX4_tells_9 : decode cX4_tells 9 = .ok (.iload_n 2, 1) := by decide +kernel
theorem dX4_tells_10 : decode cX4_tells 10 = .ok (.invokevirtual 156, 3) := by decide +kernel
theorem dX4_tells_13 : decode cX4_tells 13 = .ok (.ifCond .eq 17, 3) := by decide +kernel
theorem dX4_tells_16 : decode cX4_tells 16 = .ok (.iload_n 1, 1) := by decide +kernel
theorem dX4_tells_17 : decode cX4_tells 17 = .ok (.aload_n 0, 1) := by decide +kernel
theorem dX4_tells_18 : decode cX4_tells 18 = .ok (.getfield 33, 3) := by decide +kernel
theorem dX4_tells_21 : decode cX4_tells 21 = .ok (.iload_n 1, 1) := by decide +kernel
theorem dX4_tells_22 : decode cX4_tells 22 = .ok (.iaload, 1) := by decide +kernel
theorem dX4_tells_23 : decode cX4_tells 23 = .ok (.iload_n 2, 1) := by decide +kernel
theorem dX4_tells_24 : decode cX4_tells 24 = .ok (.invokestatic 116, 3) := by decide +kernel
theorem dX4_tells_27 : decode cX4_tells 27 = .ok (.goto 4, 3) := by decide +kernel
theorem dX4_tells_30 : decode cX4_tells 30 = .ok (.iconst (-1), 1) := by decide +kernel
theorem dX4_tells_31 : decode cX4_tells 31 = .ok (.ireturn, 1) := by decide +kernel
theorem dX4_begin_0 : decode cX4_begin 0 = .ok (.iconst 0, 1) := by decide +kernel
theorem dX4_begin_1 : decode cX4_begin 1 = .ok (.istore_n 1, 1) := by decide +kernel
theorem dX4_begin_2 : decode cX4_begin 2 = .ok (.iload_n 1, 1) := by decide +kernel
theorem dX4_begin_3 : decode cX4_begin 3 = .ok (.bipush 10, 2) := by decide +kernel
theorem dX4_begin_5 : decode cX4_begin 5 = .ok (.if_icmp .ge 39, 3) := by decide +kernel
theorem dX4_begin_8 : decode cX4_begin 8 = .ok (.aload_n 0, 1) := by decide +kernel
theorem dX4_begin_9 : decode cX4_begin 9 = .ok (.getfield 42, 3) := by decide +kernel
theorem dX4_begin_12 : decode cX4_begin 12 = .ok (.bipush 10, 2) := by decide +kernel
theorem dX4_begin_14 : decode cX4_begin 14 = .ok (.aload_n 0, 1) := by decide +kernel
theorem dX4_begin_15 : decode cX4_begin 15 = .ok (.getfield 107, 3) := by decide +kernel
theorem dX4_begin_18 : decode cX4_begin 18 = .ok (.iconst 1, 1) := by decide +kernel
theorem dX4_begin_19 : decode cX4_begin 19 = .ok (.iadd, 1) := by decide +kernel
theorem dX4_begin_20 : decode cX4_begin 20 = .ok (.imul, 1) := by decide +kernel
theorem dX4_begin_21 : decode cX4_begin 21 = .ok (.iload_n 1, 1) := by decide +kernel
theorem dX4_begin_22 : decode cX4_begin 22 = .ok (.iadd, 1) := by decide +kernel
theorem dX4_begin_23 : decode cX4_begin 23 = .ok (.aload_n 0, 1) := by decide +kernel
theorem dX4_begin_24 : decode cX4_begin 24 = .ok (.getfield 42, 3) := by decide +kernel
theorem dX4_begin_27 : decode cX4_begin 27 = .ok (.bipush 10, 2) := by decide +kernel
theorem dX4_begin_29 : decode cX4_begin 29 = .ok (.aload_n 0, 1) := by decide +kernel
theorem dX4_begin_30 : decode cX4_begin 30 = .ok (.getfield 107, 3) := by decide +kernel
theorem dX4_begin_33 : decode cX4_begin 33 = .ok (.imul, 1) := by decide +kernel
theorem dX4_begin_34 : decode cX4_begin 34 = .ok (.iload_n 1, 1) := by decide +kernel
theorem dX4_begin_35 : decode cX4_begin 35 = .ok (.iadd, 1) := by decide +kernel
theorem dX4_begin_36 : decode cX4_begin 36 = .ok (.iaload, 1) := by decide +kernel
theorem dX4_begin_37 : decode cX4_begin 37 = .ok (.iastore, 1) := by decide +kernel
theorem dX4_begin_38 : decode cX4_begin 38 = .ok (.iinc 1 1, 3) := by decide +kernel
theorem dX4_begin_41 : decode cX4_begin 41 = .ok (.goto (-39), 3) := by decide +kernel
theorem dX4_begin_44 : decode cX4_begin 44 = .ok (.aload_n 0, 1) := by decide +kernel
theorem dX4_begin_45 : decode cX4_begin 45 = .ok (.dup, 1) := by decide +kernel
theorem dX4_begin_46 : decode cX4_begin 46 = .ok (.getfield 107, 3) := by decide +kernel
theorem dX4_begin_49 : decode cX4_begin 49 = .ok (.iconst 1, 1) := by decide +kernel
theorem dX4_begin_50 : decode cX4_begin 50 = .ok (.iadd, 1) := by decide +kernel
theorem dX4_begin_51 : decode cX4_begin 51 = .ok (.putfield 107, 3) := by decide +kernel
theorem dX4_begin_54 : decode cX4_begin 54 = .ok (.return_, 1) := by decide +kernel
theorem dX4_tell_0 : decode cX4_tell 0 = .ok (.bipush 10, 2) := by decide +kernel
theorem dX4_tell_2 : decode cX4_tell 2 = .ok (.aload_n 0, 1) := by decide +kernel
theorem dX4_tell_3 : decode cX4_tell 3 = .ok (.getfield 107, 3) := by decide +kernel
theorem dX4_tell_6 : decode cX4_tell 6 = .ok (.imul, 1) := by decide +kernel
theorem dX4_tell_7 : decode cX4_tell 7 = .ok (.iconst 0, 1) := by decide +kernel
theorem dX4_tell_8 : decode cX4_tell 8 = .ok (.iadd, 1) := by decide +kernel
theorem dX4_tell_9 : decode cX4_tell 9 = .ok (.iload_n 1, 1) := by decide +kernel
theorem dX4_tell_10 : decode cX4_tell 10 = .ok (.iadd, 1) := by decide +kernel
theorem dX4_tell_11 : decode cX4_tell 11 = .ok (.istore_n 3, 1) := by decide +kernel
theorem dX4_tell_12 : decode cX4_tell 12 = .ok (.aload_n 0, 1) := by decide +kernel
theorem dX4_tell_13 : decode cX4_tell 13 = .ok (.getfield 42, 3) := by decide +kernel
theorem dX4_tell_16 : decode cX4_tell 16 = .ok (.iload_n 3, 1) := by decide +kernel
theorem dX4_tell_17 : decode cX4_tell 17 = .ok (.iaload, 1) := by decide +kernel
theorem dX4_tell_18 : decode cX4_tell 18 = .ok (.invokestatic 153, 3) := by decide +kernel
theorem dX4_tell_21 : decode cX4_tell 21 = .ok (.istore 4, 2) := by decide +kernel
theorem dX4_tell_23 : decode cX4_tell 23 = .ok (.aload_n 0, 1) := by decide +kernel
theorem dX4_tell_24 : decode cX4_tell 24 = .ok (.getfield 42, 3) := by decide +kernel
theorem dX4_tell_27 : decode cX4_tell 27 = .ok (.iload_n 3, 1) := by decide +kernel
theorem dX4_tell_28 : decode cX4_tell 28 = .ok (.dup2, 1) := by decide +kernel
theorem dX4_tell_29 : decode cX4_tell 29 = .ok (.iaload, 1) := by decide +kernel
theorem dX4_tell_30 : decode cX4_tell 30 = .ok (.iload_n 2, 1) := by decide +kernel
theorem dX4_tell_31 : decode cX4_tell 31 = .ok (.iconst 1, 1) := by decide +kernel
theorem dX4_tell_32 : decode cX4_tell 32 = .ok (.iload_n 1, 1) := by decide +kernel
theorem dX4_tell_33 : decode cX4_tell 33 = .ok (.ishl, 1) := by decide +kernel
theorem dX4_tell_34 : decode cX4_tell 34 = .ok (.iconst (-1), 1) := by decide +kernel
theorem dX4_tell_35 : decode cX4_tell 35 = .ok (.ixor, 1) := by decide +kernel
theorem dX4_tell_36 : decode cX4_tell 36 = .ok (.iand, 1) := by decide +kernel
theorem dX4_tell_37 : decode cX4_tell 37 = .ok (.ior, 1) := by decide +kernel
theorem dX4_tell_38 : decode cX4_tell 38 = .ok (.iastore, 1) := by decide +kernel
theorem dX4_tell_39 : decode cX4_tell 39 = .ok (.aload_n 0, 1) := by decide +kernel
theorem dX4_tell_40 : decode cX4_tell 40 = .ok (.getfield 42, 3) := by decide +kernel
theorem dX4_tell_43 : decode cX4_tell 43 = .ok (.iload_n 3, 1) := by decide +kernel
theorem dX4_tell_44 : decode cX4_tell 44 = .ok (.iaload, 1) := by decide +kernel
theorem dX4_tell_45 : decode cX4_tell 45 = .ok (.invokestatic 153, 3) := by decide +kernel
theorem dX4_tell_48 : decode cX4_tell 48 = .ok (.iload 4, 2) := by decide +kernel
theorem dX4_tell_50 : decode cX4_tell 50 = .ok (.isub, 1) := by decide +kernel
theorem dX4_tell_51 : decode cX4_tell 51 = .ok (.ireturn, 1) := by decide +kernel
theorem dX4_meetNow_0 : decode cX4_meetNow 0 = .ok (.aload_n 0, 1) := by decide +kernel
theorem dX4_meetNow_1 : decode cX4_meetNow 1 = .ok (.iload_n 1, 1) := by decide +kernel
theorem dX4_meetNow_2 : decode cX4_meetNow 2 = .ok (.invokevirtual 140, 3) := by decide +kernel
theorem dX4_meetNow_5 : decode cX4_meetNow 5 = .ok (.istore_n 3, 1) := by decide +kernel
theorem dX4_meetNow_6 : decode cX4_meetNow 6 = .ok (.aload_n 0, 1) := by decide +kernel
theorem dX4_meetNow_7 : decode cX4_meetNow 7 = .ok (.iload_n 2, 1) := by decide +kernel
theorem dX4_meetNow_8 : decode cX4_meetNow 8 = .ok (.invokevirtual 140, 3) := by decide +kernel
theorem dX4_meetNow_11 : decode cX4_meetNow 11 = .ok (.istore 4, 2) := by decide +kernel
theorem dX4_meetNow_13 : decode cX4_meetNow 13 = .ok (.aload_n 0, 1) := by decide +kernel
theorem dX4_meetNow_14 : decode cX4_meetNow 14 = .ok (.iload_n 1, 1) := by decide +kernel
theorem dX4_meetNow_15 : decode cX4_meetNow 15 = .ok (.iload 4, 2) := by decide +kernel
theorem dX4_meetNow_17 : decode cX4_meetNow 17 = .ok (.invokevirtual 159, 3) := by decide +kernel
theorem dX4_meetNow_20 : decode cX4_meetNow 20 = .ok (.aload_n 0, 1) := by decide +kernel
theorem dX4_meetNow_21 : decode cX4_meetNow 21 = .ok (.iload_n 2, 1) := by decide +kernel
theorem dX4_meetNow_22 : decode cX4_meetNow 22 = .ok (.iload_n 3, 1) := by decide +kernel
theorem dX4_meetNow_23 : decode cX4_meetNow 23 = .ok (.invokevirtual 159, 3) := by decide +kernel
theorem dX4_meetNow_26 : decode cX4_meetNow 26 = .ok (.iadd, 1) := by decide +kernel
theorem dX4_meetNow_27 : decode cX4_meetNow 27 = .ok (.ireturn, 1) := by decide +kernel
theorem dX4_meet_0 : decode cX4_meet 0 = .ok (.aload_n 0, 1) := by decide +kernel
theorem dX4_meet_1 : decode cX4_meet 1 = .ok (.iload_n 1, 1) := by decide +kernel
theorem dX4_meet_2 : decode cX4_meet 2 = .ok (.invokevirtual 143, 3) := by decide +kernel
theorem dX4_meet_5 : decode cX4_meet 5 = .ok (.ifCond .eq 16, 3) := by decide +kernel
theorem dX4_meet_8 : decode cX4_meet 8 = .ok (.aload_n 0, 1) := by decide +kernel
theorem dX4_meet_9 : decode cX4_meet 9 = .ok (.iload_n 2, 1) := by decide +kernel
theorem dX4_meet_10 : decode cX4_meet 10 = .ok (.invokevirtual 143, 3) := by decide +kernel
theorem dX4_meet_13 : decode cX4_meet 13 = .ok (.ifCond .eq 8, 3) := by decide +kernel
theorem dX4_meet_16 : decode cX4_meet 16 = .ok (.iload_n 1, 1) := by decide +kernel
theorem dX4_meet_17 : decode cX4_meet 17 = .ok (.iload_n 2, 1) := by decide +kernel
theorem dX4_meet_18 : decode cX4_meet 18 = .ok (.if_icmp .ne 5, 3) := by decide +kernel
theorem dX4_meet_21 : decode cX4_meet 21 = .ok (.iconst (-1), 1) := by decide +kernel
theorem dX4_meet_22 : decode cX4_meet 22 = .ok (.ireturn, 1) := by decide +kernel
theorem dX4_meet_23 : decode cX4_meet 23 = .ok (.aload_n 0, 1) := by decide +kernel
theorem dX4_meet_24 : decode cX4_meet 24 = .ok (.iload_n 1, 1) := by decide +kernel
theorem dX4_meet_25 : decode cX4_meet 25 = .ok (.invokevirtual 131, 3) := by decide +kernel
theorem dX4_meet_28 : decode cX4_meet 28 = .ok (.ifCond .ne 11, 3) := by decide +kernel
theorem dX4_meet_31 : decode cX4_meet 31 = .ok (.aload_n 0, 1) := by decide +kernel
theorem dX4_meet_32 : decode cX4_meet 32 = .ok (.iload_n 2, 1) := by decide +kernel
theorem dX4_meet_33 : decode cX4_meet 33 = .ok (.invokevirtual 131, 3) := by decide +kernel
theorem dX4_meet_36 : decode cX4_meet 36 = .ok (.ifCond .eq 6, 3) := by decide +kernel
theorem dX4_meet_39 : decode cX4_meet 39 = .ok (.bipush (-4), 2) := by decide +kernel
theorem dX4_meet_41 : decode cX4_meet 41 = .ok (.ireturn, 1) := by decide +kernel
theorem dX4_meet_42 : decode cX4_meet 42 = .ok (.aload_n 0, 1) := by decide +kernel
theorem dX4_meet_43 : decode cX4_meet 43 = .ok (.getfield 107, 3) := by decide +kernel
theorem dX4_meet_46 : decode cX4_meet 46 = .ok (.bipush 40, 2) := by decide +kernel
theorem dX4_meet_48 : decode cX4_meet 48 = .ok (.if_icmp .ne 6, 3) := by decide +kernel
theorem dX4_meet_51 : decode cX4_meet 51 = .ok (.bipush (-2), 2) := by decide +kernel
theorem dX4_meet_53 : decode cX4_meet 53 = .ok (.ireturn, 1) := by decide +kernel
theorem dX4_meet_54 : decode cX4_meet 54 = .ok (.aload_n 0, 1) := by decide +kernel
theorem dX4_meet_55 : decode cX4_meet 55 = .ok (.invokevirtual 162, 3) := by decide +kernel
theorem dX4_meet_58 : decode cX4_meet 58 = .ok (.aload_n 0, 1) := by decide +kernel
theorem dX4_meet_59 : decode cX4_meet 59 = .ok (.iload_n 1, 1) := by decide +kernel
theorem dX4_meet_60 : decode cX4_meet 60 = .ok (.iload_n 2, 1) := by decide +kernel
theorem dX4_meet_61 : decode cX4_meet 61 = .ok (.invokevirtual 165, 3) := by decide +kernel
theorem dX4_meet_64 : decode cX4_meet 64 = .ok (.ireturn, 1) := by decide +kernel
theorem dX4_card_0 : decode cX4_card 0 = .ok (.aload_n 0, 1) := by decide +kernel
theorem dX4_card_1 : decode cX4_card 1 = .ok (.iload_n 1, 1) := by decide +kernel
theorem dX4_card_2 : decode cX4_card 2 = .ok (.invokevirtual 143, 3) := by decide +kernel
theorem dX4_card_5 : decode cX4_card 5 = .ok (.ifCond .ne 5, 3) := by decide +kernel
theorem dX4_card_8 : decode cX4_card 8 = .ok (.iconst (-1), 1) := by decide +kernel
theorem dX4_card_9 : decode cX4_card 9 = .ok (.ireturn, 1) := by decide +kernel
theorem dX4_card_10 : decode cX4_card 10 = .ok (.aload_n 0, 1) := by decide +kernel
theorem dX4_card_11 : decode cX4_card 11 = .ok (.iload_n 1, 1) := by decide +kernel
theorem dX4_card_12 : decode cX4_card 12 = .ok (.invokevirtual 131, 3) := by decide +kernel
theorem dX4_card_15 : decode cX4_card 15 = .ok (.ifCond .eq 6, 3) := by decide +kernel
theorem dX4_card_18 : decode cX4_card 18 = .ok (.bipush (-4), 2) := by decide +kernel
theorem dX4_card_20 : decode cX4_card 20 = .ok (.ireturn, 1) := by decide +kernel
theorem dX4_card_21 : decode cX4_card 21 = .ok (.aload_n 0, 1) := by decide +kernel
theorem dX4_card_22 : decode cX4_card 22 = .ok (.getfield 107, 3) := by decide +kernel
theorem dX4_card_25 : decode cX4_card 25 = .ok (.bipush 40, 2) := by decide +kernel
theorem dX4_card_27 : decode cX4_card 27 = .ok (.if_icmp .ne 6, 3) := by decide +kernel
theorem dX4_card_30 : decode cX4_card 30 = .ok (.bipush (-2), 2) := by decide +kernel
theorem dX4_card_32 : decode cX4_card 32 = .ok (.ireturn, 1) := by decide +kernel
theorem dX4_card_33 : decode cX4_card 33 = .ok (.aload_n 0, 1) := by decide +kernel
theorem dX4_card_34 : decode cX4_card 34 = .ok (.invokevirtual 162, 3) := by decide +kernel
theorem dX4_card_37 : decode cX4_card 37 = .ok (.aload_n 0, 1) := by decide +kernel
theorem dX4_card_38 : decode cX4_card 38 = .ok (.getfield 42, 3) := by decide +kernel
theorem dX4_card_41 : decode cX4_card 41 = .ok (.bipush 10, 2) := by decide +kernel
theorem dX4_card_43 : decode cX4_card 43 = .ok (.aload_n 0, 1) := by decide +kernel
theorem dX4_card_44 : decode cX4_card 44 = .ok (.getfield 107, 3) := by decide +kernel
theorem dX4_card_47 : decode cX4_card 47 = .ok (.imul, 1) := by decide +kernel
theorem dX4_card_48 : decode cX4_card 48 = .ok (.bipush 9, 2) := by decide +kernel
theorem dX4_card_50 : decode cX4_card 50 = .ok (.iadd, 1) := by decide +kernel
theorem dX4_card_51 : decode cX4_card 51 = .ok (.dup2, 1) := by decide +kernel
theorem dX4_card_52 : decode cX4_card 52 = .ok (.iaload, 1) := by decide +kernel
theorem dX4_card_53 : decode cX4_card 53 = .ok (.aload_n 0, 1) := by decide +kernel
theorem dX4_card_54 : decode cX4_card 54 = .ok (.iload_n 1, 1) := by decide +kernel
theorem dX4_card_55 : decode cX4_card 55 = .ok (.invokevirtual 140, 3) := by decide +kernel
theorem dX4_card_58 : decode cX4_card 58 = .ok (.ior, 1) := by decide +kernel
theorem dX4_card_59 : decode cX4_card 59 = .ok (.iastore, 1) := by decide +kernel
theorem dX4_card_60 : decode cX4_card 60 = .ok (.aload_n 0, 1) := by decide +kernel
theorem dX4_card_61 : decode cX4_card 61 = .ok (.bipush 9, 2) := by decide +kernel
theorem dX4_card_63 : decode cX4_card 63 = .ok (.invokevirtual 110, 3) := by decide +kernel
theorem dX4_card_66 : decode cX4_card 66 = .ok (.ireturn, 1) := by decide +kernel
theorem dX4_reads_0 : decode cX4_reads 0 = .ok (.aload_n 0, 1) := by decide +kernel
theorem dX4_reads_1 : decode cX4_reads 1 = .ok (.iload_n 1, 1) := by decide +kernel
theorem dX4_reads_2 : decode cX4_reads 2 = .ok (.invokevirtual 143, 3) := by decide +kernel
theorem dX4_reads_5 : decode cX4_reads 5 = .ok (.ifCond .ne 5, 3) := by decide +kernel
theorem dX4_reads_8 : decode cX4_reads 8 = .ok (.iconst (-1), 1) := by decide +kernel
theorem dX4_reads_9 : decode cX4_reads 9 = .ok (.ireturn, 1) := by decide +kernel
theorem dX4_reads_10 : decode cX4_reads 10 = .ok (.aload_n 0, 1) := by decide +kernel
theorem dX4_reads_11 : decode cX4_reads 11 = .ok (.iload_n 1, 1) := by decide +kernel
theorem dX4_reads_12 : decode cX4_reads 12 = .ok (.invokevirtual 131, 3) := by decide +kernel
theorem dX4_reads_15 : decode cX4_reads 15 = .ok (.ifCond .eq 6, 3) := by decide +kernel
theorem dX4_reads_18 : decode cX4_reads 18 = .ok (.bipush (-4), 2) := by decide +kernel
theorem dX4_reads_20 : decode cX4_reads 20 = .ok (.ireturn, 1) := by decide +kernel
theorem dX4_reads_21 : decode cX4_reads 21 = .ok (.aload_n 0, 1) := by decide +kernel
theorem dX4_reads_22 : decode cX4_reads 22 = .ok (.getfield 107, 3) := by decide +kernel
theorem dX4_reads_25 : decode cX4_reads 25 = .ok (.bipush 40, 2) := by decide +kernel
theorem dX4_reads_27 : decode cX4_reads 27 = .ok (.if_icmp .ne 6, 3) := by decide +kernel
theorem dX4_reads_30 : decode cX4_reads 30 = .ok (.bipush (-2), 2) := by decide +kernel
theorem dX4_reads_32 : decode cX4_reads 32 = .ok (.ireturn, 1) := by decide +kernel
theorem dX4_reads_33 : decode cX4_reads 33 = .ok (.aload_n 0, 1) := by decide +kernel
theorem dX4_reads_34 : decode cX4_reads 34 = .ok (.invokevirtual 162, 3) := by decide +kernel
theorem dX4_reads_37 : decode cX4_reads 37 = .ok (.aload_n 0, 1) := by decide +kernel
theorem dX4_reads_38 : decode cX4_reads 38 = .ok (.iload_n 1, 1) := by decide +kernel
theorem dX4_reads_39 : decode cX4_reads 39 = .ok (.aload_n 0, 1) := by decide +kernel
theorem dX4_reads_40 : decode cX4_reads 40 = .ok (.bipush 9, 2) := by decide +kernel
theorem dX4_reads_42 : decode cX4_reads 42 = .ok (.invokevirtual 110, 3) := by decide +kernel
theorem dX4_reads_45 : decode cX4_reads 45 = .ok (.invokevirtual 159, 3) := by decide +kernel
theorem dX4_reads_48 : decode cX4_reads 48 = .ok (.ireturn, 1) := by decide +kernel
theorem dX4_goNow_0 : decode cX4_goNow 0 = .ok (.aload_n 0, 1) := by decide +kernel
theorem dX4_goNow_1 : decode cX4_goNow 1 = .ok (.getfield 42, 3) := by decide +kernel
theorem dX4_goNow_4 : decode cX4_goNow 4 = .ok (.bipush 10, 2) := by decide +kernel
theorem dX4_goNow_6 : decode cX4_goNow 6 = .ok (.aload_n 0, 1) := by decide +kernel
theorem dX4_goNow_7 : decode cX4_goNow 7 = .ok (.getfield 107, 3) := by decide +kernel
theorem dX4_goNow_10 : decode cX4_goNow 10 = .ok (.imul, 1) := by decide +kernel
theorem dX4_goNow_11 : decode cX4_goNow 11 = .ok (.bipush 7, 2) := by decide +kernel
theorem dX4_goNow_13 : decode cX4_goNow 13 = .ok (.iadd, 1) := by decide +kernel
theorem dX4_goNow_14 : decode cX4_goNow 14 = .ok (.dup2, 1) := by decide +kernel
theorem dX4_goNow_15 : decode cX4_goNow 15 = .ok (.iaload, 1) := by decide +kernel
theorem dX4_goNow_16 : decode cX4_goNow 16 = .ok (.iconst 1, 1) := by decide +kernel
theorem dX4_goNow_17 : decode cX4_goNow 17 = .ok (.iload_n 1, 1) := by decide +kernel
theorem dX4_goNow_18 : decode cX4_goNow 18 = .ok (.ishl, 1) := by decide +kernel
theorem dX4_goNow_19 : decode cX4_goNow 19 = .ok (.ior, 1) := by decide +kernel
theorem dX4_goNow_20 : decode cX4_goNow 20 = .ok (.iastore, 1) := by decide +kernel
theorem dX4_goNow_21 : decode cX4_goNow 21 = .ok (.aload_n 0, 1) := by decide +kernel
theorem dX4_goNow_22 : decode cX4_goNow 22 = .ok (.getfield 42, 3) := by decide +kernel
theorem dX4_goNow_25 : decode cX4_goNow 25 = .ok (.bipush 10, 2) := by decide +kernel
theorem dX4_goNow_27 : decode cX4_goNow 27 = .ok (.aload_n 0, 1) := by decide +kernel
theorem dX4_goNow_28 : decode cX4_goNow 28 = .ok (.getfield 107, 3) := by decide +kernel
theorem dX4_goNow_31 : decode cX4_goNow 31 = .ok (.imul, 1) := by decide +kernel
theorem dX4_goNow_32 : decode cX4_goNow 32 = .ok (.bipush 8, 2) := by decide +kernel
theorem dX4_goNow_34 : decode cX4_goNow 34 = .ok (.iadd, 1) := by decide +kernel
theorem dX4_goNow_35 : decode cX4_goNow 35 = .ok (.iload_n 1, 1) := by decide +kernel
theorem dX4_goNow_36 : decode cX4_goNow 36 = .ok (.iastore, 1) := by decide +kernel
theorem dX4_goNow_37 : decode cX4_goNow 37 = .ok (.return_, 1) := by decide +kernel
theorem dX4_go_0 : decode cX4_go 0 = .ok (.aload_n 0, 1) := by decide +kernel
theorem dX4_go_1 : decode cX4_go 1 = .ok (.iload_n 1, 1) := by decide +kernel
theorem dX4_go_2 : decode cX4_go 2 = .ok (.invokevirtual 143, 3) := by decide +kernel
theorem dX4_go_5 : decode cX4_go 5 = .ok (.ifCond .ne 5, 3) := by decide +kernel
theorem dX4_go_8 : decode cX4_go 8 = .ok (.iconst (-1), 1) := by decide +kernel
theorem dX4_go_9 : decode cX4_go 9 = .ok (.ireturn, 1) := by decide +kernel
theorem dX4_go_10 : decode cX4_go 10 = .ok (.aload_n 0, 1) := by decide +kernel
theorem dX4_go_11 : decode cX4_go 11 = .ok (.iload_n 1, 1) := by decide +kernel
theorem dX4_go_12 : decode cX4_go 12 = .ok (.invokevirtual 137, 3) := by decide +kernel
theorem dX4_go_15 : decode cX4_go 15 = .ok (.ifCond .ne 6, 3) := by decide +kernel
theorem dX4_go_18 : decode cX4_go 18 = .ok (.bipush (-4), 2) := by decide +kernel
theorem dX4_go_20 : decode cX4_go 20 = .ok (.ireturn, 1) := by decide +kernel
theorem dX4_go_21 : decode cX4_go 21 = .ok (.aload_n 0, 1) := by decide +kernel
theorem dX4_go_22 : decode cX4_go 22 = .ok (.getfield 107, 3) := by decide +kernel
theorem dX4_go_25 : decode cX4_go 25 = .ok (.bipush 40, 2) := by decide +kernel
theorem dX4_go_27 : decode cX4_go 27 = .ok (.if_icmp .ne 6, 3) := by decide +kernel
theorem dX4_go_30 : decode cX4_go 30 = .ok (.bipush (-2), 2) := by decide +kernel
theorem dX4_go_32 : decode cX4_go 32 = .ok (.ireturn, 1) := by decide +kernel
theorem dX4_go_33 : decode cX4_go 33 = .ok (.aload_n 0, 1) := by decide +kernel
theorem dX4_go_34 : decode cX4_go 34 = .ok (.invokevirtual 162, 3) := by decide +kernel
theorem dX4_go_37 : decode cX4_go 37 = .ok (.aload_n 0, 1) := by decide +kernel
theorem dX4_go_38 : decode cX4_go 38 = .ok (.iload_n 1, 1) := by decide +kernel
theorem dX4_go_39 : decode cX4_go 39 = .ok (.invokevirtual 168, 3) := by decide +kernel
theorem dX4_go_42 : decode cX4_go 42 = .ok (.aload_n 0, 1) := by decide +kernel
theorem dX4_go_43 : decode cX4_go 43 = .ok (.bipush 7, 2) := by decide +kernel
theorem dX4_go_45 : decode cX4_go 45 = .ok (.invokevirtual 110, 3) := by decide +kernel
theorem dX4_go_48 : decode cX4_go 48 = .ok (.invokestatic 153, 3) := by decide +kernel
theorem dX4_go_51 : decode cX4_go 51 = .ok (.ireturn, 1) := by decide +kernel
theorem dX4_undo_0 : decode cX4_undo 0 = .ok (.iload_n 1, 1) := by decide +kernel
theorem dX4_undo_1 : decode cX4_undo 1 = .ok (.iconst 0, 1) := by decide +kernel
theorem dX4_undo_2 : decode cX4_undo 2 = .ok (.aload_n 0, 1) := by decide +kernel
theorem dX4_undo_3 : decode cX4_undo 3 = .ok (.getfield 107, 3) := by decide +kernel
theorem dX4_undo_6 : decode cX4_undo 6 = .ok (.invokestatic 77, 3) := by decide +kernel
theorem dX4_undo_9 : decode cX4_undo 9 = .ok (.ifCond .ne 5, 3) := by decide +kernel
theorem dX4_undo_12 : decode cX4_undo 12 = .ok (.iconst (-1), 1) := by decide +kernel
theorem dX4_undo_13 : decode cX4_undo 13 = .ok (.ireturn, 1) := by decide +kernel
theorem dX4_undo_14 : decode cX4_undo 14 = .ok (.aload_n 0, 1) := by decide +kernel
theorem dX4_undo_15 : decode cX4_undo 15 = .ok (.getfield 107, 3) := by decide +kernel
theorem dX4_undo_18 : decode cX4_undo 18 = .ok (.iload_n 1, 1) := by decide +kernel
theorem dX4_undo_19 : decode cX4_undo 19 = .ok (.isub, 1) := by decide +kernel
theorem dX4_undo_20 : decode cX4_undo 20 = .ok (.istore_n 2, 1) := by decide +kernel
theorem dX4_undo_21 : decode cX4_undo 21 = .ok (.aload_n 0, 1) := by decide +kernel
theorem dX4_undo_22 : decode cX4_undo 22 = .ok (.iload_n 1, 1) := by decide +kernel
theorem dX4_undo_23 : decode cX4_undo 23 = .ok (.putfield 107, 3) := by decide +kernel
theorem dX4_undo_26 : decode cX4_undo 26 = .ok (.iload_n 2, 1) := by decide +kernel
theorem dX4_undo_27 : decode cX4_undo 27 = .ok (.ireturn, 1) := by decide +kernel
theorem dX4_keep_0 : decode cX4_keep 0 = .ok (.iload_n 1, 1) := by decide +kernel
theorem dX4_keep_1 : decode cX4_keep 1 = .ok (.iconst 0, 1) := by decide +kernel
theorem dX4_keep_2 : decode cX4_keep 2 = .ok (.iconst 2, 1) := by decide +kernel
theorem dX4_keep_3 : decode cX4_keep 3 = .ok (.invokestatic 77, 3) := by decide +kernel
theorem dX4_keep_6 : decode cX4_keep 6 = .ok (.ifCond .ne 5, 3) := by decide +kernel
theorem dX4_keep_9 : decode cX4_keep 9 = .ok (.iconst (-1), 1) := by decide +kernel
theorem dX4_keep_10 : decode cX4_keep 10 = .ok (.ireturn, 1) := by decide +kernel
theorem dX4_keep_11 : decode cX4_keep 11 = .ok (.aload_n 0, 1) := by decide +kernel
theorem dX4_keep_12 : decode cX4_keep 12 = .ok (.getfield 104, 3) := by decide +kernel
theorem dX4_keep_15 : decode cX4_keep 15 = .ok (.ifCond .ne 6, 3) := by decide +kernel
theorem dX4_keep_18 : decode cX4_keep 18 = .ok (.bipush (-4), 2) := by decide +kernel
theorem dX4_keep_20 : decode cX4_keep 20 = .ok (.ireturn, 1) := by decide +kernel
theorem dX4_keep_21 : decode cX4_keep 21 = .ok (.iconst 0, 1) := by decide +kernel
theorem dX4_keep_22 : decode cX4_keep 22 = .ok (.istore_n 2, 1) := by decide +kernel
theorem dX4_keep_23 : decode cX4_keep 23 = .ok (.iload_n 2, 1) := by decide +kernel
theorem dX4_keep_24 : decode cX4_keep 24 = .ok (.sipush 410, 3) := by decide +kernel
theorem dX4_keep_27 : decode cX4_keep 27 = .ok (.if_icmp .ge 27, 3) := by decide +kernel
theorem dX4_keep_30 : decode cX4_keep 30 = .ok (.aload_n 0, 1) := by decide +kernel
theorem dX4_keep_31 : decode cX4_keep 31 = .ok (.getfield 45, 3) := by decide +kernel
theorem dX4_keep_34 : decode cX4_keep 34 = .ok (.sipush 410, 3) := by decide +kernel
theorem dX4_keep_37 : decode cX4_keep 37 = .ok (.iload_n 1, 1) := by decide +kernel
theorem dX4_keep_38 : decode cX4_keep 38 = .ok (.imul, 1) := by decide +kernel
theorem dX4_keep_39 : decode cX4_keep 39 = .ok (.iload_n 2, 1) := by decide +kernel
theorem dX4_keep_40 : decode cX4_keep 40 = .ok (.iadd, 1) := by decide +kernel
theorem dX4_keep_41 : decode cX4_keep 41 = .ok (.aload_n 0, 1) := by decide +kernel
theorem dX4_keep_42 : decode cX4_keep 42 = .ok (.getfield 42, 3) := by decide +kernel
theorem dX4_keep_45 : decode cX4_keep 45 = .ok (.iload_n 2, 1) := by decide +kernel
theorem dX4_keep_46 : decode cX4_keep 46 = .ok (.iaload, 1) := by decide +kernel
theorem dX4_keep_47 : decode cX4_keep 47 = .ok (.iastore, 1) := by decide +kernel
theorem dX4_keep_48 : decode cX4_keep 48 = .ok (.iinc 2 1, 3) := by decide +kernel
theorem dX4_keep_51 : decode cX4_keep 51 = .ok (.goto (-28), 3) := by decide +kernel
theorem dX4_keep_54 : decode cX4_keep 54 = .ok (.aload_n 0, 1) := by decide +kernel
theorem dX4_keep_55 : decode cX4_keep 55 = .ok (.getfield 48, 3) := by decide +kernel
theorem dX4_keep_58 : decode cX4_keep 58 = .ok (.iload_n 1, 1) := by decide +kernel
theorem dX4_keep_59 : decode cX4_keep 59 = .ok (.aload_n 0, 1) := by decide +kernel
theorem dX4_keep_60 : decode cX4_keep 60 = .ok (.getfield 107, 3) := by decide +kernel
theorem dX4_keep_63 : decode cX4_keep 63 = .ok (.iastore, 1) := by decide +kernel
theorem dX4_keep_64 : decode cX4_keep 64 = .ok (.aload_n 0, 1) := by decide +kernel
theorem dX4_keep_65 : decode cX4_keep 65 = .ok (.getfield 107, 3) := by decide +kernel
theorem dX4_keep_68 : decode cX4_keep 68 = .ok (.ireturn, 1) := by decide +kernel
theorem dX4_on_0 : decode cX4_on 0 = .ok (.iload_n 1, 1) := by decide +kernel
theorem dX4_on_1 : decode cX4_on 1 = .ok (.iconst 0, 1) := by decide +kernel
theorem dX4_on_2 : decode cX4_on 2 = .ok (.iconst 2, 1) := by decide +kernel
theorem dX4_on_3 : decode cX4_on 3 = .ok (.invokestatic 77, 3) := by decide +kernel
theorem dX4_on_6 : decode cX4_on 6 = .ok (.ifCond .ne 5, 3) := by decide +kernel
theorem dX4_on_9 : decode cX4_on 9 = .ok (.iconst (-1), 1) := by decide +kernel
theorem dX4_on_10 : decode cX4_on 10 = .ok (.ireturn, 1) := by decide +kernel
theorem dX4_on_11 : decode cX4_on 11 = .ok (.aload_n 0, 1) := by decide +kernel
theorem dX4_on_12 : decode cX4_on 12 = .ok (.getfield 48, 3) := by decide +kernel
theorem dX4_on_15 : decode cX4_on 15 = .ok (.iload_n 1, 1) := by decide +kernel
theorem dX4_on_16 : decode cX4_on 16 = .ok (.iaload, 1) := by decide +kernel
theorem dX4_on_17 : decode cX4_on 17 = .ok (.ifCond .ge 9, 3) := by decide +kernel
theorem dX4_on_20 : decode cX4_on 20 = .ok (.aload_n 0, 1) := by decide +kernel
theorem dX4_on_21 : decode cX4_on 21 = .ok (.iconst 1, 1) := by decide +kernel
theorem dX4_on_22 : decode cX4_on 22 = .ok (.invokevirtual 85, 3) := by decide +kernel
theorem dX4_on_25 : decode cX4_on 25 = .ok (.ireturn, 1) := by decide +kernel
theorem dX4_on_26 : decode cX4_on 26 = .ok (.iconst 0, 1) := by decide +kernel
theorem dX4_on_27 : decode cX4_on 27 = .ok (.istore_n 2, 1) := by decide +kernel
theorem dX4_on_28 : decode cX4_on 28 = .ok (.iload_n 2, 1) := by decide +kernel
theorem dX4_on_29 : decode cX4_on 29 = .ok (.sipush 410, 3) := by decide +kernel
theorem dX4_on_32 : decode cX4_on 32 = .ok (.if_icmp .ge 27, 3) := by decide +kernel
theorem dX4_on_35 : decode cX4_on 35 = .ok (.aload_n 0, 1) := by decide +kernel
theorem dX4_on_36 : decode cX4_on 36 = .ok (.getfield 42, 3) := by decide +kernel
theorem dX4_on_39 : decode cX4_on 39 = .ok (.iload_n 2, 1) := by decide +kernel
theorem dX4_on_40 : decode cX4_on 40 = .ok (.aload_n 0, 1) := by decide +kernel
theorem dX4_on_41 : decode cX4_on 41 = .ok (.getfield 45, 3) := by decide +kernel
theorem dX4_on_44 : decode cX4_on 44 = .ok (.sipush 410, 3) := by decide +kernel
theorem dX4_on_47 : decode cX4_on 47 = .ok (.iload_n 1, 1) := by decide +kernel
theorem dX4_on_48 : decode cX4_on 48 = .ok (.imul, 1) := by decide +kernel
theorem dX4_on_49 : decode cX4_on 49 = .ok (.iload_n 2, 1) := by decide +kernel
theorem dX4_on_50 : decode cX4_on 50 = .ok (.iadd, 1) := by decide +kernel
theorem dX4_on_51 : decode cX4_on 51 = .ok (.iaload, 1) := by decide +kernel
theorem dX4_on_52 : decode cX4_on 52 = .ok (.iastore, 1) := by decide +kernel
theorem dX4_on_53 : decode cX4_on 53 = .ok (.iinc 2 1, 3) := by decide +kernel
theorem dX4_on_56 : decode cX4_on 56 = .ok (.goto (-28), 3) := by decide +kernel
theorem dX4_on_59 : decode cX4_on 59 = .ok (.aload_n 0, 1) := by decide +kernel
theorem dX4_on_60 : decode cX4_on 60 = .ok (.aload_n 0, 1) := by decide +kernel
theorem dX4_on_61 : decode cX4_on 61 = .ok (.getfield 48, 3) := by decide +kernel
theorem dX4_on_64 : decode cX4_on 64 = .ok (.iload_n 1, 1) := by decide +kernel
theorem dX4_on_65 : decode cX4_on 65 = .ok (.iaload, 1) := by decide +kernel
theorem dX4_on_66 : decode cX4_on 66 = .ok (.putfield 107, 3) := by decide +kernel
theorem dX4_on_69 : decode cX4_on 69 = .ok (.aload_n 0, 1) := by decide +kernel
theorem dX4_on_70 : decode cX4_on 70 = .ok (.getfield 107, 3) := by decide +kernel
theorem dX4_on_73 : decode cX4_on 73 = .ok (.ireturn, 1) := by decide +kernel
theorem dX4_tellNames_0 : decode cX4_tellNames 0 = .ok (.iconst 0, 1) := by decide +kernel
theorem dX4_tellNames_1 : decode cX4_tellNames 1 = .ok (.istore_n 1, 1) := by decide +kernel
theorem dX4_tellNames_2 : decode cX4_tellNames 2 = .ok (.iload_n 1, 1) := by decide +kernel
theorem dX4_tellNames_3 : decode cX4_tellNames 3 = .ok (.aload_n 0, 1) := by decide +kernel
theorem dX4_tellNames_4 : decode cX4_tellNames 4 = .ok (.getfield 104, 3) := by decide +kernel
theorem dX4_tellNames_7 : decode cX4_tellNames 7 = .ok (.if_icmp .ge 20, 3) := by decide +kernel
theorem dX4_tellNames_10 : decode cX4_tellNames 10 = .ok (.aload_n 0, 1) := by decide +kernel
theorem dX4_tellNames_11 : decode cX4_tellNames 11 = .ok (.getfield 51, 3) := by decide +kernel
theorem dX4_tellNames_14 : decode cX4_tellNames 14 = .ok (.iload_n 1, 1) := by decide +kernel
theorem dX4_tellNames_15 : decode cX4_tellNames 15 = .ok (.aload_n 0, 1) := by decide +kernel
theorem dX4_tellNames_16 : decode cX4_tellNames 16 = .ok (.iload_n 1, 1) := by decide +kernel
theorem dX4_tellNames_17 : decode cX4_tellNames 17 = .ok (.invokevirtual 134, 3) := by decide +kernel
theorem dX4_tellNames_20 : decode cX4_tellNames 20 = .ok (.iastore, 1) := by decide +kernel
theorem dX4_tellNames_21 : decode cX4_tellNames 21 = .ok (.iinc 1 1, 3) := by decide +kernel
theorem dX4_tellNames_24 : decode cX4_tellNames 24 = .ok (.goto (-22), 3) := by decide +kernel
theorem dX4_tellNames_27 : decode cX4_tellNames 27 = .ok (.return_, 1) := by decide +kernel
theorem dX4_mayGo_0 : decode cX4_mayGo 0 = .ok (.iload_n 1, 1) := by decide +kernel
theorem dX4_mayGo_1 : decode cX4_mayGo 1 = .ok (.bipush 7, 2) := by decide +kernel
theorem dX4_mayGo_3 : decode cX4_mayGo 3 = .ok (.if_icmp .ge 14, 3) := by decide +kernel
theorem dX4_mayGo_6 : decode cX4_mayGo 6 = .ok (.aload_n 0, 1) := by decide +kernel
theorem dX4_mayGo_7 : decode cX4_mayGo 7 = .ok (.getfield 51, 3) := by decide +kernel
theorem dX4_mayGo_10 : decode cX4_mayGo 10 = .ok (.iload_n 2, 1) := by decide +kernel
theorem dX4_mayGo_11 : decode cX4_mayGo 11 = .ok (.iaload, 1) := by decide +kernel
theorem dX4_mayGo_12 : decode cX4_mayGo 12 = .ok (.iload_n 1, 1) := by decide +kernel
theorem dX4_mayGo_13 : decode cX4_mayGo 13 = .ok (.invokestatic 123, 3) := by decide +kernel
theorem dX4_mayGo_16 : decode cX4_mayGo 16 = .ok (.ireturn, 1) := by decide +kernel
theorem dX4_mayGo_17 : decode cX4_mayGo 17 = .ok (.aload_n 0, 1) := by decide +kernel
theorem dX4_mayGo_18 : decode cX4_mayGo 18 = .ok (.bipush 8, 2) := by decide +kernel
theorem dX4_mayGo_20 : decode cX4_mayGo 20 = .ok (.invokevirtual 110, 3) := by decide +kernel
theorem dX4_mayGo_23 : decode cX4_mayGo 23 = .ok (.bipush (-9), 2) := by decide +kernel
theorem dX4_mayGo_25 : decode cX4_mayGo 25 = .ok (.if_icmp .eq 21, 3) := by decide +kernel
theorem dX4_mayGo_28 : decode cX4_mayGo 28 = .ok (.aload_n 0, 1) := by decide +kernel
theorem dX4_mayGo_29 : decode cX4_mayGo 29 = .ok (.getfield 51, 3) := by decide +kernel
theorem dX4_mayGo_32 : decode cX4_mayGo 32 = .ok (.iload_n 2, 1) := by decide +kernel
theorem dX4_mayGo_33 : decode cX4_mayGo 33 = .ok (.iaload, 1) := by decide +kernel
theorem dX4_mayGo_34 : decode cX4_mayGo 34 = .ok (.aload_n 0, 1) := by decide +kernel
theorem dX4_mayGo_35 : decode cX4_mayGo 35 = .ok (.bipush 8, 2) := by decide +kernel
theorem dX4_mayGo_37 : decode cX4_mayGo 37 = .ok (.invokevirtual 110, 3) := by decide +kernel
theorem dX4_mayGo_40 : decode cX4_mayGo 40 = .ok (.invokestatic 123, 3) := by decide +kernel
theorem dX4_mayGo_43 : decode cX4_mayGo 43 = .ok (.ifCond .eq 7, 3) := by decide +kernel
theorem dX4_mayGo_46 : decode cX4_mayGo 46 = .ok (.iconst 1, 1) := by decide +kernel
theorem dX4_mayGo_47 : decode cX4_mayGo 47 = .ok (.goto 4, 3) := by decide +kernel
theorem dX4_mayGo_50 : decode cX4_mayGo 50 = .ok (.iconst 0, 1) := by decide +kernel
theorem dX4_mayGo_51 : decode cX4_mayGo 51 = .ok (.ireturn, 1) := by decide +kernel
theorem dX4_tellWays_0 : decode cX4_tellWays 0 = .ok (.aload_n 0, 1) := by decide +kernel
theorem dX4_tellWays_1 : decode cX4_tellWays 1 = .ok (.invokevirtual 149, 3) := by decide +kernel
theorem dX4_tellWays_4 : decode cX4_tellWays 4 = .ok (.istore_n 1, 1) := by decide +kernel
theorem dX4_tellWays_5 : decode cX4_tellWays 5 = .ok (.iconst 0, 1) := by decide +kernel
theorem dX4_tellWays_6 : decode cX4_tellWays 6 = .ok (.istore_n 2, 1) := by decide +kernel
theorem dX4_tellWays_7 : decode cX4_tellWays 7 = .ok (.iload_n 2, 1) := by decide +kernel
theorem dX4_tellWays_8 : decode cX4_tellWays 8 = .ok (.sipush 896, 3) := by decide +kernel
theorem dX4_tellWays_11 : decode cX4_tellWays 11 = .ok (.if_icmp .ge 16, 3) := by decide +kernel
theorem dX4_tellWays_14 : decode cX4_tellWays 14 = .ok (.aload_n 0, 1) := by decide +kernel
theorem dX4_tellWays_15 : decode cX4_tellWays 15 = .ok (.getfield 54, 3) := by decide +kernel
theorem dX4_tellWays_18 : decode cX4_tellWays 18 = .ok (.iload_n 2, 1) := by decide +kernel
theorem dX4_tellWays_19 : decode cX4_tellWays 19 = .ok (.iconst 0, 1) := by decide +kernel
theorem dX4_tellWays_20 : decode cX4_tellWays 20 = .ok (.iastore, 1) := by decide +kernel
theorem dX4_tellWays_21 : decode cX4_tellWays 21 = .ok (.iinc 2 1, 3) := by decide +kernel
theorem dX4_tellWays_24 : decode cX4_tellWays 24 = .ok (.goto (-17), 3) := by decide +kernel
theorem dX4_tellWays_27 : decode cX4_tellWays 27 = .ok (.iconst 0, 1) := by decide +kernel
theorem dX4_tellWays_28 : decode cX4_tellWays 28 = .ok (.istore_n 2, 1) := by decide +kernel
theorem dX4_tellWays_29 : decode cX4_tellWays 29 = .ok (.iload_n 2, 1) := by decide +kernel
theorem dX4_tellWays_30 : decode cX4_tellWays 30 = .ok (.aload_n 0, 1) := by decide +kernel
theorem dX4_tellWays_31 : decode cX4_tellWays 31 = .ok (.getfield 104, 3) := by decide +kernel
theorem dX4_tellWays_34 : decode cX4_tellWays 34 = .ok (.if_icmp .ge 45, 3) := by decide +kernel
theorem dX4_tellWays_37 : decode cX4_tellWays 37 = .ok (.aload_n 0, 1) := by decide +kernel
theorem dX4_tellWays_38 : decode cX4_tellWays 38 = .ok (.getfield 54, 3) := by decide +kernel
theorem dX4_tellWays_41 : decode cX4_tellWays 41 = .ok (.bipush 7, 2) := by decide +kernel
theorem dX4_tellWays_43 : decode cX4_tellWays 43 = .ok (.iconst 1, 1) := by decide +kernel
theorem dX4_tellWays_44 : decode cX4_tellWays 44 = .ok (.iload_n 2, 1) := by decide +kernel
theorem dX4_tellWays_45 : decode cX4_tellWays 45 = .ok (.ishl, 1) := by decide +kernel
theorem dX4_tellWays_46 : decode cX4_tellWays 46 = .ok (.imul, 1) := by decide +kernel
theorem dX4_tellWays_47 : decode cX4_tellWays 47 = .ok (.iload_n 2, 1) := by decide +kernel
theorem dX4_tellWays_48 : decode cX4_tellWays 48 = .ok (.iadd, 1) := by decide +kernel
theorem dX4_tellWays_49 : decode cX4_tellWays 49 = .ok (.iload_n 1, 1) := by decide +kernel
theorem dX4_tellWays_50 : decode cX4_tellWays 50 = .ok (.iload_n 2, 1) := by decide +kernel
theorem dX4_tellWays_51 : decode cX4_tellWays 51 = .ok (.invokestatic 123, 3) := by decide +kernel
theorem dX4_tellWays_54 : decode cX4_tellWays 54 = .ok (.ifCond .eq 17, 3) := by decide +kernel
theorem dX4_tellWays_57 : decode cX4_tellWays 57 = .ok (.aload_n 0, 1) := by decide +kernel
theorem dX4_tellWays_58 : decode cX4_tellWays 58 = .ok (.bipush 7, 2) := by decide +kernel
theorem dX4_tellWays_60 : decode cX4_tellWays 60 = .ok (.iload_n 2, 1) := by decide +kernel
theorem dX4_tellWays_61 : decode cX4_tellWays 61 = .ok (.invokevirtual 172, 3) := by decide +kernel
theorem dX4_tellWays_64 : decode cX4_tellWays 64 = .ok (.ifCond .eq 7, 3) := by decide +kernel
theorem dX4_tellWays_67 : decode cX4_tellWays 67 = .ok (.iconst 1, 1) := by decide +kernel
theorem dX4_tellWays_68 : decode cX4_tellWays 68 = .ok (.goto 4, 3) := by decide +kernel
theorem dX4_tellWays_71 : decode cX4_tellWays 71 = .ok (.iconst 0, 1) := by decide +kernel
theorem dX4_tellWays_72 : decode cX4_tellWays 72 = .ok (.iastore, 1) := by decide +kernel
theorem dX4_tellWays_73 : decode cX4_tellWays 73 = .ok (.iinc 2 1, 3) := by decide +kernel
theorem dX4_tellWays_76 : decode cX4_tellWays 76 = .ok (.goto (-47), 3) := by decide +kernel
theorem dX4_tellWays_79 : decode cX4_tellWays 79 = .ok (.iconst 1, 1) := by decide +kernel
theorem dX4_tellWays_80 : decode cX4_tellWays 80 = .ok (.istore_n 2, 1) := by decide +kernel
theorem dX4_tellWays_81 : decode cX4_tellWays 81 = .ok (.iload_n 2, 1) := by decide +kernel
theorem dX4_tellWays_82 : decode cX4_tellWays 82 = .ok (.iconst 1, 1) := by decide +kernel
theorem dX4_tellWays_83 : decode cX4_tellWays 83 = .ok (.aload_n 0, 1) := by decide +kernel
theorem dX4_tellWays_84 : decode cX4_tellWays 84 = .ok (.getfield 104, 3) := by decide +kernel
theorem dX4_tellWays_87 : decode cX4_tellWays 87 = .ok (.ishl, 1) := by decide +kernel
theorem dX4_tellWays_88 : decode cX4_tellWays 88 = .ok (.if_icmp .ge 111, 3) := by decide +kernel
theorem dX4_tellWays_91 : decode cX4_tellWays 91 = .ok (.iconst 0, 1) := by decide +kernel
theorem dX4_tellWays_92 : decode cX4_tellWays 92 = .ok (.istore_n 3, 1) := by decide +kernel
theorem dX4_tellWays_93 : decode cX4_tellWays 93 = .ok (.iload_n 3, 1) := by decide +kernel
theorem dX4_tellWays_94 : decode cX4_tellWays 94 = .ok (.aload_n 0, 1) := by decide +kernel
theorem dX4_tellWays_95 : decode cX4_tellWays 95 = .ok (.getfield 104, 3) := by decide +kernel
theorem dX4_tellWays_98 : decode cX4_tellWays 98 = .ok (.if_icmp .ge 95, 3) := by decide +kernel
theorem dX4_tellWays_101 : decode cX4_tellWays 101 = .ok (.aload_n 0, 1) := by decide +kernel
theorem dX4_tellWays_102 : decode cX4_tellWays 102 = .ok (.getfield 54, 3) := by decide +kernel
theorem dX4_tellWays_105 : decode cX4_tellWays 105 = .ok (.bipush 7, 2) := by decide +kernel
theorem dX4_tellWays_107 : decode cX4_tellWays 107 = .ok (.iload_n 2, 1) := by decide +kernel
theorem dX4_tellWays_108 : decode cX4_tellWays 108 = .ok (.imul, 1) := by decide +kernel
theorem dX4_tellWays_109 : decode cX4_tellWays 109 = .ok (.iload_n 3, 1) := by decide +kernel
theorem dX4_tellWays_110 : decode cX4_tellWays 110 = .ok (.iadd, 1) := by decide +kernel
theorem dX4_tellWays_111 : decode cX4_tellWays 111 = .ok (.iaload, 1) := by decide +kernel
theorem dX4_tellWays_112 : decode cX4_tellWays 112 = .ok (.istore 4, 2) := by decide +kernel
theorem dX4_tellWays_114 : decode cX4_tellWays 114 = .ok (.iconst 0, 1) := by decide +kernel
theorem dX4_tellWays_115 : decode cX4_tellWays 115 = .ok (.istore 5, 2) := by decide +kernel
theorem dX4_tellWays_117 : decode cX4_tellWays 117 = .ok (.iload 5, 2) := by decide +kernel
theorem dX4_tellWays_119 : decode cX4_tellWays 119 = .ok (.aload_n 0, 1) := by decide +kernel
theorem dX4_tellWays_120 : decode cX4_tellWays 120 = .ok (.getfield 104, 3) := by decide +kernel
theorem dX4_tellWays_123 : decode cX4_tellWays 123 = .ok (.if_icmp .ge 64, 3) := by decide +kernel
theorem dX4_tellWays_126 : decode cX4_tellWays 126 = .ok (.iload 4, 2) := by decide +kernel
theorem dX4_tellWays_128 : decode cX4_tellWays 128 = .ok (.ifCond .le 59, 3) := by decide +kernel
theorem dX4_tellWays_131 : decode cX4_tellWays 131 = .ok (.iload_n 1, 1) := by decide +kernel
theorem dX4_tellWays_132 : decode cX4_tellWays 132 = .ok (.iload 5, 2) := by decide +kernel
theorem dX4_tellWays_134 : decode cX4_tellWays 134 = .ok (.invokestatic 123, 3) := by decide +kernel
theorem dX4_tellWays_137 : decode cX4_tellWays 137 = .ok (.ifCond .eq 44, 3) := by decide +kernel
theorem dX4_tellWays_140 : decode cX4_tellWays 140 = .ok (.iload_n 2, 1) := by decide +kernel
theorem dX4_tellWays_141 : decode cX4_tellWays 141 = .ok (.iload 5, 2) := by decide +kernel
theorem dX4_tellWays_143 : decode cX4_tellWays 143 = .ok (.invokestatic 123, 3) := by decide +kernel
theorem dX4_tellWays_146 : decode cX4_tellWays 146 = .ok (.ifCond .ne 35, 3) := by decide +kernel
theorem dX4_tellWays_149 : decode cX4_tellWays 149 = .ok (.aload_n 0, 1) := by decide +kernel
theorem dX4_tellWays_150 : decode cX4_tellWays 150 = .ok (.iload_n 3, 1) := by decide +kernel
theorem dX4_tellWays_151 : decode cX4_tellWays 151 = .ok (.iload 5, 2) := by decide +kernel
theorem dX4_tellWays_153 : decode cX4_tellWays 153 = .ok (.invokevirtual 172, 3) := by decide +kernel
theorem dX4_tellWays_156 : decode cX4_tellWays 156 = .ok (.ifCond .eq 25, 3) := by decide +kernel
theorem dX4_tellWays_159 : decode cX4_tellWays 159 = .ok (.aload_n 0, 1) := by decide +kernel
theorem dX4_tellWays_160 : decode cX4_tellWays 160 = .ok (.getfield 54, 3) := by decide +kernel
theorem dX4_tellWays_163 : decode cX4_tellWays 163 = .ok (.bipush 7, 2) := by decide +kernel
theorem dX4_tellWays_165 : decode cX4_tellWays 165 = .ok (.iload_n 2, 1) := by decide +kernel
theorem dX4_tellWays_166 : decode cX4_tellWays 166 = .ok (.iconst 1, 1) := by decide +kernel
theorem dX4_tellWays_167 : decode cX4_tellWays 167 = .ok (.iload 5, 2) := by decide +kernel
theorem dX4_tellWays_169 : decode cX4_tellWays 169 = .ok (.ishl, 1) := by decide +kernel
theorem dX4_tellWays_170 : decode cX4_tellWays 170 = .ok (.ior, 1) := by decide +kernel
theorem dX4_tellWays_171 : decode cX4_tellWays 171 = .ok (.imul, 1) := by decide +kernel
theorem dX4_tellWays_172 : decode cX4_tellWays 172 = .ok (.iload 5, 2) := by decide +kernel
theorem dX4_tellWays_174 : decode cX4_tellWays 174 = .ok (.iadd, 1) := by decide +kernel
theorem dX4_tellWays_175 : decode cX4_tellWays 175 = .ok (.dup2, 1) := by decide +kernel
theorem dX4_tellWays_176 : decode cX4_tellWays 176 = .ok (.iaload, 1) := by decide +kernel
theorem dX4_tellWays_177 : decode cX4_tellWays 177 = .ok (.iload 4, 2) := by decide +kernel
theorem dX4_tellWays_179 : decode cX4_tellWays 179 = .ok (.iadd, 1) := by decide +kernel
theorem dX4_tellWays_180 : decode cX4_tellWays 180 = .ok (.iastore, 1) := by decide +kernel
theorem dX4_tellWays_181 : decode cX4_tellWays 181 = .ok (.iinc 5 1, 3) := by decide +kernel
theorem dX4_tellWays_184 : decode cX4_tellWays 184 = .ok (.goto (-67), 3) := by decide +kernel
theorem dX4_tellWays_187 : decode cX4_tellWays 187 = .ok (.iinc 3 1, 3) := by decide +kernel
theorem dX4_tellWays_190 : decode cX4_tellWays 190 = .ok (.goto (-97), 3) := by decide +kernel
theorem dX4_tellWays_193 : decode cX4_tellWays 193 = .ok (.iinc 2 1, 3) := by decide +kernel
theorem dX4_tellWays_196 : decode cX4_tellWays 196 = .ok (.goto (-115), 3) := by decide +kernel
theorem dX4_tellWays_199 : decode cX4_tellWays 199 = .ok (.return_, 1) := by decide +kernel
theorem dX4_ordersOf_0 : decode cX4_ordersOf 0 = .ok (.iload_n 1, 1) := by decide +kernel
theorem dX4_ordersOf_1 : decode cX4_ordersOf 1 = .ok (.ifCond .ne 7, 3) := by decide +kernel
theorem dX4_ordersOf_4 : decode cX4_ordersOf 4 = .ok (.iconst 1, 1) := by decide +kernel
theorem dX4_ordersOf_5 : decode cX4_ordersOf 5 = .ok (.goto 4, 3) := by decide +kernel
theorem dX4_ordersOf_8 : decode cX4_ordersOf 8 = .ok (.iconst 0, 1) := by decide +kernel
theorem dX4_ordersOf_9 : decode cX4_ordersOf 9 = .ok (.istore_n 2, 1) := by decide +kernel
theorem dX4_ordersOf_10 : decode cX4_ordersOf 10 = .ok (.iconst 0, 1) := by decide +kernel
theorem dX4_ordersOf_11 : decode cX4_ordersOf 11 = .ok (.istore_n 3, 1) := by decide +kernel
theorem dX4_ordersOf_12 : decode cX4_ordersOf 12 = .ok (.iload_n 3, 1) := by decide +kernel
theorem dX4_ordersOf_13 : decode cX4_ordersOf 13 = .ok (.aload_n 0, 1) := by decide +kernel
theorem dX4_ordersOf_14 : decode cX4_ordersOf 14 = .ok (.getfield 104, 3) := by decide +kernel
theorem dX4_ordersOf_17 : decode cX4_ordersOf 17 = .ok (.if_icmp .ge 23, 3) := by decide +kernel
theorem dX4_ordersOf_20 : decode cX4_ordersOf 20 = .ok (.iload_n 2, 1) := by decide +kernel
theorem dX4_ordersOf_21 : decode cX4_ordersOf 21 = .ok (.aload_n 0, 1) := by decide +kernel
theorem dX4_ordersOf_22 : decode cX4_ordersOf 22 = .ok (.getfield 54, 3) := by decide +kernel
theorem dX4_ordersOf_25 : decode cX4_ordersOf 25 = .ok (.bipush 7, 2) := by decide +kernel
theorem dX4_ordersOf_27 : decode cX4_ordersOf 27 = .ok (.iload_n 1, 1) := by decide +kernel
theorem dX4_ordersOf_28 : decode cX4_ordersOf 28 = .ok (.imul, 1) := by decide +kernel
theorem dX4_ordersOf_29 : decode cX4_ordersOf 29 = .ok (.iload_n 3, 1) := by decide +kernel
theorem dX4_ordersOf_30 : decode cX4_ordersOf 30 = .ok (.iadd, 1) := by decide +kernel
theorem dX4_ordersOf_31 : decode cX4_ordersOf 31 = .ok (.iaload, 1) := by decide +kernel
theorem dX4_ordersOf_32 : decode cX4_ordersOf 32 = .ok (.iadd, 1) := by decide +kernel
theorem dX4_ordersOf_33 : decode cX4_ordersOf 33 = .ok (.istore_n 2, 1) := by decide +kernel
theorem dX4_ordersOf_34 : decode cX4_ordersOf 34 = .ok (.iinc 3 1, 3) := by decide +kernel
theorem dX4_ordersOf_37 : decode cX4_ordersOf 37 = .ok (.goto (-25), 3) := by decide +kernel
theorem dX4_ordersOf_40 : decode cX4_ordersOf 40 = .ok (.iload_n 2, 1) := by decide +kernel
theorem dX4_ordersOf_41 : decode cX4_ordersOf 41 = .ok (.ireturn, 1) := by decide +kernel
theorem dX4_mostOf_0 : decode cX4_mostOf 0 = .ok (.iconst 0, 1) := by decide +kernel
theorem dX4_mostOf_1 : decode cX4_mostOf 1 = .ok (.istore_n 2, 1) := by decide +kernel
theorem dX4_mostOf_2 : decode cX4_mostOf 2 = .ok (.iconst 0, 1) := by decide +kernel
theorem dX4_mostOf_3 : decode cX4_mostOf 3 = .ok (.istore_n 3, 1) := by decide +kernel
theorem dX4_mostOf_4 : decode cX4_mostOf 4 = .ok (.iload_n 3, 1) := by decide +kernel
theorem dX4_mostOf_5 : decode cX4_mostOf 5 = .ok (.iconst 1, 1) := by decide +kernel
theorem dX4_mostOf_6 : decode cX4_mostOf 6 = .ok (.aload_n 0, 1) := by decide +kernel
theorem dX4_mostOf_7 : decode cX4_mostOf 7 = .ok (.getfield 104, 3) := by decide +kernel
theorem dX4_mostOf_10 : decode cX4_mostOf 10 = .ok (.ishl, 1) := by decide +kernel
theorem dX4_mostOf_11 : decode cX4_mostOf 11 = .ok (.if_icmp .ge 54, 3) := by decide +kernel
theorem dX4_mostOf_14 : decode cX4_mostOf 14 = .ok (.iload_n 3, 1) := by decide +kernel
theorem dX4_mostOf_15 : decode cX4_mostOf 15 = .ok (.iload_n 1, 1) := by decide +kernel
theorem dX4_mostOf_16 : decode cX4_mostOf 16 = .ok (.iconst (-1), 1) := by decide +kernel
theorem dX4_mostOf_17 : decode cX4_mostOf 17 = .ok (.ixor, 1) := by decide +kernel
theorem dX4_mostOf_18 : decode cX4_mostOf 18 = .ok (.iand, 1) := by decide +kernel
theorem dX4_mostOf_19 : decode cX4_mostOf 19 = .ok (.ifCond .ne 23, 3) := by decide +kernel
theorem dX4_mostOf_22 : decode cX4_mostOf 22 = .ok (.aload_n 0, 1) := by decide +kernel
theorem dX4_mostOf_23 : decode cX4_mostOf 23 = .ok (.iload_n 3, 1) := by decide +kernel
theorem dX4_mostOf_24 : decode cX4_mostOf 24 = .ok (.invokevirtual 175, 3) := by decide +kernel
theorem dX4_mostOf_27 : decode cX4_mostOf 27 = .ok (.ifCond .le 15, 3) := by decide +kernel
theorem dX4_mostOf_30 : decode cX4_mostOf 30 = .ok (.iload_n 3, 1) := by decide +kernel
theorem dX4_mostOf_31 : decode cX4_mostOf 31 = .ok (.invokestatic 153, 3) := by decide +kernel
theorem dX4_mostOf_34 : decode cX4_mostOf 34 = .ok (.iload_n 2, 1) := by decide +kernel
theorem dX4_mostOf_35 : decode cX4_mostOf 35 = .ok (.if_icmp .le 7, 3) := by decide +kernel
theorem dX4_mostOf_38 : decode cX4_mostOf 38 = .ok (.iconst 1, 1) := by decide +kernel
theorem dX4_mostOf_39 : decode cX4_mostOf 39 = .ok (.goto 4, 3) := by decide +kernel
theorem dX4_mostOf_42 : decode cX4_mostOf 42 = .ok (.iconst 0, 1) := by decide +kernel
theorem dX4_mostOf_43 : decode cX4_mostOf 43 = .ok (.istore 4, 2) := by decide +kernel
theorem dX4_mostOf_45 : decode cX4_mostOf 45 = .ok (.iload 4, 2) := by decide +kernel
theorem dX4_mostOf_47 : decode cX4_mostOf 47 = .ok (.ifCond .eq 10, 3) := by decide +kernel
theorem dX4_mostOf_50 : decode cX4_mostOf 50 = .ok (.iload_n 3, 1) := by decide +kernel
theorem dX4_mostOf_51 : decode cX4_mostOf 51 = .ok (.invokestatic 153, 3) := by decide +kernel
theorem dX4_mostOf_54 : decode cX4_mostOf 54 = .ok (.goto 4, 3) := by decide +kernel
theorem dX4_mostOf_57 : decode cX4_mostOf 57 = .ok (.iload_n 2, 1) := by decide +kernel
theorem dX4_mostOf_58 : decode cX4_mostOf 58 = .ok (.istore_n 2, 1) := by decide +kernel
theorem dX4_mostOf_59 : decode cX4_mostOf 59 = .ok (.iinc 3 1, 3) := by decide +kernel
theorem dX4_mostOf_62 : decode cX4_mostOf 62 = .ok (.goto (-58), 3) := by decide +kernel
theorem dX4_mostOf_65 : decode cX4_mostOf 65 = .ok (.iload_n 2, 1) := by decide +kernel
theorem dX4_mostOf_66 : decode cX4_mostOf 66 = .ok (.ireturn, 1) := by decide +kernel
theorem dX4_tellMore_0 : decode cX4_tellMore 0 = .ok (.aload_n 0, 1) := by decide +kernel
theorem dX4_tellMore_1 : decode cX4_tellMore 1 = .ok (.invokevirtual 149, 3) := by decide +kernel
theorem dX4_tellMore_4 : decode cX4_tellMore 4 = .ok (.istore_n 1, 1) := by decide +kernel
theorem dX4_tellMore_5 : decode cX4_tellMore 5 = .ok (.iconst 1, 1) := by decide +kernel
theorem dX4_tellMore_6 : decode cX4_tellMore 6 = .ok (.aload_n 0, 1) := by decide +kernel
theorem dX4_tellMore_7 : decode cX4_tellMore 7 = .ok (.getfield 104, 3) := by decide +kernel
theorem dX4_tellMore_10 : decode cX4_tellMore 10 = .ok (.ishl, 1) := by decide +kernel
theorem dX4_tellMore_11 : decode cX4_tellMore 11 = .ok (.iconst 1, 1) := by decide +kernel
theorem dX4_tellMore_12 : decode cX4_tellMore 12 = .ok (.isub, 1) := by decide +kernel
theorem dX4_tellMore_13 : decode cX4_tellMore 13 = .ok (.istore_n 2, 1) := by decide +kernel
theorem dX4_tellMore_14 : decode cX4_tellMore 14 = .ok (.iload_n 2, 1) := by decide +kernel
theorem dX4_tellMore_15 : decode cX4_tellMore 15 = .ok (.ifCond .lt 122, 3) := by decide +kernel
theorem dX4_tellMore_18 : decode cX4_tellMore 18 = .ok (.iconst 0, 1) := by decide +kernel
theorem dX4_tellMore_19 : decode cX4_tellMore 19 = .ok (.istore_n 3, 1) := by decide +kernel
theorem dX4_tellMore_20 : decode cX4_tellMore 20 = .ok (.iload_n 3, 1) := by decide +kernel
theorem dX4_tellMore_21 : decode cX4_tellMore 21 = .ok (.bipush 7, 2) := by decide +kernel
theorem dX4_tellMore_23 : decode cX4_tellMore 23 = .ok (.if_icmp .gt 108, 3) := by decide +kernel
theorem dX4_tellMore_26 : decode cX4_tellMore 26 = .ok (.iconst 0, 1) := by decide +kernel
theorem dX4_tellMore_27 : decode cX4_tellMore 27 = .ok (.istore 4, 2) := by decide +kernel
theorem dX4_tellMore_29 : decode cX4_tellMore 29 = .ok (.iconst 0, 1) := by decide +kernel
theorem dX4_tellMore_30 : decode cX4_tellMore 30 = .ok (.istore 5, 2) := by decide +kernel
theorem dX4_tellMore_32 : decode cX4_tellMore 32 = .ok (.iload 5, 2) := by decide +kernel
theorem dX4_tellMore_34 : decode cX4_tellMore 34 = .ok (.aload_n 0, 1) := by decide +kernel
theorem dX4_tellMore_35 : decode cX4_tellMore 35 = .ok (.getfield 104, 3) := by decide +kernel
theorem dX4_tellMore_38 : decode cX4_tellMore 38 = .ok (.if_icmp .ge 74, 3) := by decide +kernel
theorem dX4_tellMore_41 : decode cX4_tellMore 41 = .ok (.iload_n 1, 1) := by decide +kernel
theorem dX4_tellMore_42 : decode cX4_tellMore 42 = .ok (.iload 5, 2) := by decide +kernel
theorem dX4_tellMore_44 : decode cX4_tellMore 44 = .ok (.invokestatic 123, 3) := by decide +kernel
theorem dX4_tellMore_47 : decode cX4_tellMore 47 = .ok (.ifCond .eq 59, 3) := by decide +kernel
theorem dX4_tellMore_50 : decode cX4_tellMore 50 = .ok (.iload_n 2, 1) := by decide +kernel
theorem dX4_tellMore_51 : decode cX4_tellMore 51 = .ok (.iload 5, 2) := by decide +kernel
theorem dX4_tellMore_53 : decode cX4_tellMore 53 = .ok (.invokestatic 123, 3) := by decide +kernel
theorem dX4_tellMore_56 : decode cX4_tellMore 56 = .ok (.ifCond .ne 50, 3) := by decide +kernel
theorem dX4_tellMore_59 : decode cX4_tellMore 59 = .ok (.aload_n 0, 1) := by decide +kernel
theorem dX4_tellMore_60 : decode cX4_tellMore 60 = .ok (.iload_n 3, 1) := by decide +kernel
theorem dX4_tellMore_61 : decode cX4_tellMore 61 = .ok (.iload 5, 2) := by decide +kernel
theorem dX4_tellMore_63 : decode cX4_tellMore 63 = .ok (.invokevirtual 172, 3) := by decide +kernel
theorem dX4_tellMore_66 : decode cX4_tellMore 66 = .ok (.ifCond .eq 40, 3) := by decide +kernel
theorem dX4_tellMore_69 : decode cX4_tellMore 69 = .ok (.iconst 1, 1) := by decide +kernel
theorem dX4_tellMore_70 : decode cX4_tellMore 70 = .ok (.aload_n 0, 1) := by decide +kernel
theorem dX4_tellMore_71 : decode cX4_tellMore 71 = .ok (.getfield 57, 3) := by decide +kernel
theorem dX4_tellMore_74 : decode cX4_tellMore 74 = .ok (.bipush 8, 2) := by decide +kernel
theorem dX4_tellMore_76 : decode cX4_tellMore 76 = .ok (.iload_n 2, 1) := by decide +kernel
theorem dX4_tellMore_77 : decode cX4_tellMore 77 = .ok (.iconst 1, 1) := by decide +kernel
theorem dX4_tellMore_78 : decode cX4_tellMore 78 = .ok (.iload 5, 2) := by decide +kernel
theorem dX4_tellMore_80 : decode cX4_tellMore 80 = .ok (.ishl, 1) := by decide +kernel
theorem dX4_tellMore_81 : decode cX4_tellMore 81 = .ok (.ior, 1) := by decide +kernel
theorem dX4_tellMore_82 : decode cX4_tellMore 82 = .ok (.imul, 1) := by decide +kernel
theorem dX4_tellMore_83 : decode cX4_tellMore 83 = .ok (.iload 5, 2) := by decide +kernel
theorem dX4_tellMore_85 : decode cX4_tellMore 85 = .ok (.iadd, 1) := by decide +kernel
theorem dX4_tellMore_86 : decode cX4_tellMore 86 = .ok (.iaload, 1) := by decide +kernel
theorem dX4_tellMore_87 : decode cX4_tellMore 87 = .ok (.iadd, 1) := by decide +kernel
theorem dX4_tellMore_88 : decode cX4_tellMore 88 = .ok (.istore 6, 2) := by decide +kernel
theorem dX4_tellMore_90 : decode cX4_tellMore 90 = .ok (.iload 6, 2) := by decide +kernel
theorem dX4_tellMore_92 : decode cX4_tellMore 92 = .ok (.iload 4, 2) := by decide +kernel
theorem dX4_tellMore_94 : decode cX4_tellMore 94 = .ok (.if_icmp .le 8, 3) := by decide +kernel
theorem dX4_tellMore_97 : decode cX4_tellMore 97 = .ok (.iload 6, 2) := by decide +kernel
theorem dX4_tellMore_99 : decode cX4_tellMore 99 = .ok (.goto 5, 3) := by decide +kernel
theorem dX4_tellMore_102 : decode cX4_tellMore 102 = .ok (.iload 4, 2) := by decide +kernel
theorem dX4_tellMore_104 : decode cX4_tellMore 104 = .ok (.istore 4, 2) := by decide +kernel
theorem dX4_tellMore_106 : decode cX4_tellMore 106 = .ok (.iinc 5 1, 3) := by decide +kernel
theorem dX4_tellMore_109 : decode cX4_tellMore 109 = .ok (.goto (-77), 3) := by decide +kernel
theorem dX4_tellMore_112 : decode cX4_tellMore 112 = .ok (.aload_n 0, 1) := by decide +kernel
theorem dX4_tellMore_113 : decode cX4_tellMore 113 = .ok (.getfield 57, 3) := by decide +kernel
theorem dX4_tellMore_116 : decode cX4_tellMore 116 = .ok (.bipush 8, 2) := by decide +kernel
theorem dX4_tellMore_118 : decode cX4_tellMore 118 = .ok (.iload_n 2, 1) := by decide +kernel
theorem dX4_tellMore_119 : decode cX4_tellMore 119 = .ok (.imul, 1) := by decide +kernel
theorem dX4_tellMore_120 : decode cX4_tellMore 120 = .ok (.iload_n 3, 1) := by decide +kernel
theorem dX4_tellMore_121 : decode cX4_tellMore 121 = .ok (.iadd, 1) := by decide +kernel
theorem dX4_tellMore_122 : decode cX4_tellMore 122 = .ok (.iload 4, 2) := by decide +kernel
theorem dX4_tellMore_124 : decode cX4_tellMore 124 = .ok (.iastore, 1) := by decide +kernel
theorem dX4_tellMore_125 : decode cX4_tellMore 125 = .ok (.iinc 3 1, 3) := by decide +kernel
theorem dX4_tellMore_128 : decode cX4_tellMore 128 = .ok (.goto (-108), 3) := by decide +kernel
theorem dX4_tellMore_131 : decode cX4_tellMore 131 = .ok (.iinc 2 (-1), 3) := by decide +kernel
theorem dX4_tellMore_134 : decode cX4_tellMore 134 = .ok (.goto (-120), 3) := by decide +kernel
theorem dX4_tellMore_137 : decode cX4_tellMore 137 = .ok (.return_, 1) := by decide +kernel
theorem dX4_open_0 : decode cX4_open 0 = .ok (.iconst 0, 1) := by decide +kernel
theorem dX4_open_1 : decode cX4_open 1 = .ok (.istore_n 1, 1) := by decide +kernel
theorem dX4_open_2 : decode cX4_open 2 = .ok (.iconst 0, 1) := by decide +kernel
theorem dX4_open_3 : decode cX4_open 3 = .ok (.istore_n 2, 1) := by decide +kernel
theorem dX4_open_4 : decode cX4_open 4 = .ok (.iload_n 2, 1) := by decide +kernel
theorem dX4_open_5 : decode cX4_open 5 = .ok (.aload_n 0, 1) := by decide +kernel
theorem dX4_open_6 : decode cX4_open 6 = .ok (.getfield 104, 3) := by decide +kernel
theorem dX4_open_9 : decode cX4_open 9 = .ok (.if_icmp .ge 45, 3) := by decide +kernel
theorem dX4_open_12 : decode cX4_open 12 = .ok (.iload_n 1, 1) := by decide +kernel
theorem dX4_open_13 : decode cX4_open 13 = .ok (.aload_n 0, 1) := by decide +kernel
theorem dX4_open_14 : decode cX4_open 14 = .ok (.bipush 8, 2) := by decide +kernel
theorem dX4_open_16 : decode cX4_open 16 = .ok (.invokevirtual 110, 3) := by decide +kernel
theorem dX4_open_19 : decode cX4_open 19 = .ok (.bipush (-9), 2) := by decide +kernel
theorem dX4_open_21 : decode cX4_open 21 = .ok (.if_icmp .eq 20, 3) := by decide +kernel
theorem dX4_open_24 : decode cX4_open 24 = .ok (.aload_n 0, 1) := by decide +kernel
theorem dX4_open_25 : decode cX4_open 25 = .ok (.iload_n 2, 1) := by decide +kernel
theorem dX4_open_26 : decode cX4_open 26 = .ok (.invokevirtual 134, 3) := by decide +kernel
theorem dX4_open_29 : decode cX4_open 29 = .ok (.aload_n 0, 1) := by decide +kernel
theorem dX4_open_30 : decode cX4_open 30 = .ok (.bipush 8, 2) := by decide +kernel
theorem dX4_open_32 : decode cX4_open 32 = .ok (.invokevirtual 110, 3) := by decide +kernel
theorem dX4_open_35 : decode cX4_open 35 = .ok (.invokestatic 123, 3) := by decide +kernel
theorem dX4_open_38 : decode cX4_open 38 = .ok (.ifCond .eq 7, 3) := by decide +kernel
theorem dX4_open_41 : decode cX4_open 41 = .ok (.iconst 1, 1) := by decide +kernel
theorem dX4_open_42 : decode cX4_open 42 = .ok (.goto 4, 3) := by decide +kernel
theorem dX4_open_45 : decode cX4_open 45 = .ok (.iconst 0, 1) := by decide +kernel
theorem dX4_open_46 : decode cX4_open 46 = .ok (.iadd, 1) := by decide +kernel
theorem dX4_open_47 : decode cX4_open 47 = .ok (.istore_n 1, 1) := by decide +kernel
theorem dX4_open_48 : decode cX4_open 48 = .ok (.iinc 2 1, 3) := by decide +kernel
theorem dX4_open_51 : decode cX4_open 51 = .ok (.goto (-47), 3) := by decide +kernel
theorem dX4_open_54 : decode cX4_open 54 = .ok (.aload_n 0, 1) := by decide +kernel
theorem dX4_open_55 : decode cX4_open 55 = .ok (.iload_n 1, 1) := by decide +kernel
theorem dX4_open_56 : decode cX4_open 56 = .ok (.invokevirtual 89, 3) := by decide +kernel
theorem dX4_open_59 : decode cX4_open 59 = .ok (.pop, 1) := by decide +kernel
theorem dX4_open_60 : decode cX4_open 60 = .ok (.aload_n 0, 1) := by decide +kernel
theorem dX4_open_61 : decode cX4_open 61 = .ok (.invokevirtual 178, 3) := by decide +kernel
theorem dX4_open_64 : decode cX4_open 64 = .ok (.ireturn, 1) := by decide +kernel
theorem dX4_most_0 : decode cX4_most 0 = .ok (.iload_n 1, 1) := by decide +kernel
theorem dX4_most_1 : decode cX4_most 1 = .ok (.invokestatic 81, 3) := by decide +kernel
theorem dX4_most_4 : decode cX4_most 4 = .ok (.ifCond .ne 5, 3) := by decide +kernel
theorem dX4_most_7 : decode cX4_most 7 = .ok (.iconst (-1), 1) := by decide +kernel
theorem dX4_most_8 : decode cX4_most 8 = .ok (.ireturn, 1) := by decide +kernel
theorem dX4_most_9 : decode cX4_most 9 = .ok (.aload_n 0, 1) := by decide +kernel
theorem dX4_most_10 : decode cX4_most 10 = .ok (.getfield 104, 3) := by decide +kernel
theorem dX4_most_13 : decode cX4_most 13 = .ok (.ifCond .ne 6, 3) := by decide +kernel
theorem dX4_most_16 : decode cX4_most 16 = .ok (.bipush (-4), 2) := by decide +kernel
theorem dX4_most_18 : decode cX4_most 18 = .ok (.ireturn, 1) := by decide +kernel
theorem dX4_most_19 : decode cX4_most 19 = .ok (.aload_n 0, 1) := by decide +kernel
theorem dX4_most_20 : decode cX4_most 20 = .ok (.invokevirtual 181, 3) := by decide +kernel
theorem dX4_most_23 : decode cX4_most 23 = .ok (.aload_n 0, 1) := by decide +kernel
theorem dX4_most_24 : decode cX4_most 24 = .ok (.invokevirtual 184, 3) := by decide +kernel
theorem dX4_most_27 : decode cX4_most 27 = .ok (.aload_n 0, 1) := by decide +kernel
theorem dX4_most_28 : decode cX4_most 28 = .ok (.getfield 57, 3) := by decide +kernel
theorem dX4_most_31 : decode cX4_most 31 = .ok (.bipush 7, 2) := by decide +kernel
theorem dX4_most_33 : decode cX4_most 33 = .ok (.iaload, 1) := by decide +kernel
theorem dX4_most_34 : decode cX4_most 34 = .ok (.istore_n 2, 1) := by decide +kernel
theorem dX4_most_35 : decode cX4_most 35 = .ok (.aload_n 0, 1) := by decide +kernel
theorem dX4_most_36 : decode cX4_most 36 = .ok (.iload_n 1, 1) := by decide +kernel
theorem dX4_most_37 : decode cX4_most 37 = .ok (.iload_n 2, 1) := by decide +kernel
theorem dX4_most_38 : decode cX4_most 38 = .ok (.invokevirtual 187, 3) := by decide +kernel
theorem dX4_most_41 : decode cX4_most 41 = .ok (.pop, 1) := by decide +kernel
theorem dX4_most_42 : decode cX4_most 42 = .ok (.iconst 0, 1) := by decide +kernel
theorem dX4_most_43 : decode cX4_most 43 = .ok (.istore_n 3, 1) := by decide +kernel
theorem dX4_most_44 : decode cX4_most 44 = .ok (.bipush 7, 2) := by decide +kernel
theorem dX4_most_46 : decode cX4_most 46 = .ok (.istore 4, 2) := by decide +kernel
theorem dX4_most_48 : decode cX4_most 48 = .ok (.iconst 0, 1) := by decide +kernel
theorem dX4_most_49 : decode cX4_most 49 = .ok (.istore 5, 2) := by decide +kernel
theorem dX4_most_51 : decode cX4_most 51 = .ok (.iload 5, 2) := by decide +kernel
theorem dX4_most_53 : decode cX4_most 53 = .ok (.iload_n 2, 1) := by decide +kernel
theorem dX4_most_54 : decode cX4_most 54 = .ok (.if_icmp .ge 136, 3) := by decide +kernel
theorem dX4_most_57 : decode cX4_most 57 = .ok (.bipush (-9), 2) := by decide +kernel
theorem dX4_most_59 : decode cX4_most 59 = .ok (.istore 6, 2) := by decide +kernel
theorem dX4_most_61 : decode cX4_most 61 = .ok (.aload_n 0, 1) := by decide +kernel
theorem dX4_most_62 : decode cX4_most 62 = .ok (.getfield 104, 3) := by decide +kernel
theorem dX4_most_65 : decode cX4_most 65 = .ok (.iconst 1, 1) := by decide +kernel
theorem dX4_most_66 : decode cX4_most 66 = .ok (.isub, 1) := by decide +kernel
theorem dX4_most_67 : decode cX4_most 67 = .ok (.istore 7, 2) := by decide +kernel
theorem dX4_most_69 : decode cX4_most 69 = .ok (.iload 7, 2) := by decide +kernel
theorem dX4_most_71 : decode cX4_most 71 = .ok (.ifCond .lt 88, 3) := by decide +kernel
theorem dX4_most_74 : decode cX4_most 74 = .ok (.aload_n 0, 1) := by decide +kernel
theorem dX4_most_75 : decode cX4_most 75 = .ok (.invokevirtual 149, 3) := by decide +kernel
theorem dX4_most_78 : decode cX4_most 78 = .ok (.iload 7, 2) := by decide +kernel
theorem dX4_most_80 : decode cX4_most 80 = .ok (.invokestatic 123, 3) := by decide +kernel
theorem dX4_most_83 : decode cX4_most 83 = .ok (.ifCond .eq 27, 3) := by decide +kernel
theorem dX4_most_86 : decode cX4_most 86 = .ok (.iload_n 3, 1) := by decide +kernel
theorem dX4_most_87 : decode cX4_most 87 = .ok (.iload 7, 2) := by decide +kernel
theorem dX4_most_89 : decode cX4_most 89 = .ok (.invokestatic 123, 3) := by decide +kernel
theorem dX4_most_92 : decode cX4_most 92 = .ok (.ifCond .ne 18, 3) := by decide +kernel
theorem dX4_most_95 : decode cX4_most 95 = .ok (.aload_n 0, 1) := by decide +kernel
theorem dX4_most_96 : decode cX4_most 96 = .ok (.iload 4, 2) := by decide +kernel
theorem dX4_most_98 : decode cX4_most 98 = .ok (.iload 7, 2) := by decide +kernel
theorem dX4_most_100 : decode cX4_most 100 = .ok (.invokevirtual 172, 3) := by decide +kernel
theorem dX4_most_103 : decode cX4_most 103 = .ok (.ifCond .eq 7, 3) := by decide +kernel
theorem dX4_most_106 : decode cX4_most 106 = .ok (.iconst 1, 1) := by decide +kernel
theorem dX4_most_107 : decode cX4_most 107 = .ok (.goto 4, 3) := by decide +kernel
theorem dX4_most_110 : decode cX4_most 110 = .ok (.iconst 0, 1) := by decide +kernel
theorem dX4_most_111 : decode cX4_most 111 = .ok (.istore 8, 2) := by decide +kernel
theorem dX4_most_113 : decode cX4_most 113 = .ok (.iload 8, 2) := by decide +kernel
theorem dX4_most_115 : decode cX4_most 115 = .ok (.ifCond .eq 34, 3) := by decide +kernel
theorem dX4_most_118 : decode cX4_most 118 = .ok (.iconst 1, 1) := by decide +kernel
theorem dX4_most_119 : decode cX4_most 119 = .ok (.aload_n 0, 1) := by decide +kernel
theorem dX4_most_120 : decode cX4_most 120 = .ok (.getfield 57, 3) := by decide +kernel
theorem dX4_most_123 : decode cX4_most 123 = .ok (.bipush 8, 2) := by decide +kernel
theorem dX4_most_125 : decode cX4_most 125 = .ok (.iload_n 3, 1) := by decide +kernel
theorem dX4_most_126 : decode cX4_most 126 = .ok (.iconst 1, 1) := by decide +kernel
theorem dX4_most_127 : decode cX4_most 127 = .ok (.iload 7, 2) := by decide +kernel
theorem dX4_most_129 : decode cX4_most 129 = .ok (.ishl, 1) := by decide +kernel
theorem dX4_most_130 : decode cX4_most 130 = .ok (.ior, 1) := by decide +kernel
theorem dX4_most_131 : decode cX4_most 131 = .ok (.imul, 1) := by decide +kernel
theorem dX4_most_132 : decode cX4_most 132 = .ok (.iload 7, 2) := by decide +kernel
theorem dX4_most_134 : decode cX4_most 134 = .ok (.iadd, 1) := by decide +kernel
theorem dX4_most_135 : decode cX4_most 135 = .ok (.iaload, 1) := by decide +kernel
theorem dX4_most_136 : decode cX4_most 136 = .ok (.iadd, 1) := by decide +kernel
theorem dX4_most_137 : decode cX4_most 137 = .ok (.iload_n 2, 1) := by decide +kernel
theorem dX4_most_138 : decode cX4_most 138 = .ok (.iload 5, 2) := by decide +kernel
theorem dX4_most_140 : decode cX4_most 140 = .ok (.isub, 1) := by decide +kernel
theorem dX4_most_141 : decode cX4_most 141 = .ok (.if_icmp .ne 8, 3) := by decide +kernel
theorem dX4_most_144 : decode cX4_most 144 = .ok (.iload 7, 2) := by decide +kernel
theorem dX4_most_146 : decode cX4_most 146 = .ok (.goto 5, 3) := by decide +kernel
theorem dX4_most_149 : decode cX4_most 149 = .ok (.iload 6, 2) := by decide +kernel
theorem dX4_most_151 : decode cX4_most 151 = .ok (.istore 6, 2) := by decide +kernel
theorem dX4_most_153 : decode cX4_most 153 = .ok (.iinc 7 (-1), 3) := by decide +kernel
theorem dX4_most_156 : decode cX4_most 156 = .ok (.goto (-87), 3) := by decide +kernel
theorem dX4_most_159 : decode cX4_most 159 = .ok (.aload_n 0, 1) := by decide +kernel
theorem dX4_most_160 : decode cX4_most 160 = .ok (.getfield 20, 3) := by decide +kernel
theorem dX4_most_163 : decode cX4_most 163 = .ok (.bipush 40, 2) := by decide +kernel
theorem dX4_most_165 : decode cX4_most 165 = .ok (.iload_n 1, 1) := by decide +kernel
theorem dX4_most_166 : decode cX4_most 166 = .ok (.imul, 1) := by decide +kernel
theorem dX4_most_167 : decode cX4_most 167 = .ok (.iload 5, 2) := by decide +kernel
theorem dX4_most_169 : decode cX4_most 169 = .ok (.iadd, 1) := by decide +kernel
theorem dX4_most_170 : decode cX4_most 170 = .ok (.iload 6, 2) := by decide +kernel
theorem dX4_most_172 : decode cX4_most 172 = .ok (.iastore, 1) := by decide +kernel
theorem dX4_most_173 : decode cX4_most 173 = .ok (.iload_n 3, 1) := by decide +kernel
theorem dX4_most_174 : decode cX4_most 174 = .ok (.iconst 1, 1) := by decide +kernel
theorem dX4_most_175 : decode cX4_most 175 = .ok (.iload 6, 2) := by decide +kernel
theorem dX4_most_177 : decode cX4_most 177 = .ok (.ishl, 1) := by decide +kernel
theorem dX4_most_178 : decode cX4_most 178 = .ok (.ior, 1) := by decide +kernel
theorem dX4_most_179 : decode cX4_most 179 = .ok (.istore_n 3, 1) := by decide +kernel
theorem dX4_most_180 : decode cX4_most 180 = .ok (.iload 6, 2) := by decide +kernel
theorem dX4_most_182 : decode cX4_most 182 = .ok (.istore 4, 2) := by decide +kernel
theorem dX4_most_184 : decode cX4_most 184 = .ok (.iinc 5 1, 3) := by decide +kernel
theorem dX4_most_187 : decode cX4_most 187 = .ok (.goto (-136), 3) := by decide +kernel
theorem dX4_most_190 : decode cX4_most 190 = .ok (.iload_n 2, 1) := by decide +kernel
theorem dX4_most_191 : decode cX4_most 191 = .ok (.ireturn, 1) := by decide +kernel
theorem dX4_worthOf_0 : decode cX4_worthOf 0 = .ok (.iconst 0, 1) := by decide +kernel
theorem dX4_worthOf_1 : decode cX4_worthOf 1 = .ok (.istore_n 2, 1) := by decide +kernel
theorem dX4_worthOf_2 : decode cX4_worthOf 2 = .ok (.iconst 0, 1) := by decide +kernel
theorem dX4_worthOf_3 : decode cX4_worthOf 3 = .ok (.istore_n 3, 1) := by decide +kernel
theorem dX4_worthOf_4 : decode cX4_worthOf 4 = .ok (.iload_n 3, 1) := by decide +kernel
theorem dX4_worthOf_5 : decode cX4_worthOf 5 = .ok (.aload_n 0, 1) := by decide +kernel
theorem dX4_worthOf_6 : decode cX4_worthOf 6 = .ok (.getfield 104, 3) := by decide +kernel
theorem dX4_worthOf_9 : decode cX4_worthOf 9 = .ok (.if_icmp .ge 30, 3) := by decide +kernel
theorem dX4_worthOf_12 : decode cX4_worthOf 12 = .ok (.iload_n 2, 1) := by decide +kernel
theorem dX4_worthOf_13 : decode cX4_worthOf 13 = .ok (.iload_n 1, 1) := by decide +kernel
theorem dX4_worthOf_14 : decode cX4_worthOf 14 = .ok (.iload_n 3, 1) := by decide +kernel
theorem dX4_worthOf_15 : decode cX4_worthOf 15 = .ok (.invokestatic 123, 3) := by decide +kernel
theorem dX4_worthOf_18 : decode cX4_worthOf 18 = .ok (.ifCond .eq 12, 3) := by decide +kernel
theorem dX4_worthOf_21 : decode cX4_worthOf 21 = .ok (.aload_n 0, 1) := by decide +kernel
theorem dX4_worthOf_22 : decode cX4_worthOf 22 = .ok (.getfield 36, 3) := by decide +kernel
theorem dX4_worthOf_25 : decode cX4_worthOf 25 = .ok (.iload_n 3, 1) := by decide +kernel
theorem dX4_worthOf_26 : decode cX4_worthOf 26 = .ok (.iaload, 1) := by decide +kernel
theorem dX4_worthOf_27 : decode cX4_worthOf 27 = .ok (.goto 4, 3) := by decide +kernel
theorem dX4_worthOf_30 : decode cX4_worthOf 30 = .ok (.iconst 0, 1) := by decide +kernel
theorem dX4_worthOf_31 : decode cX4_worthOf 31 = .ok (.iadd, 1) := by decide +kernel
theorem dX4_worthOf_32 : decode cX4_worthOf 32 = .ok (.istore_n 2, 1) := by decide +kernel
theorem dX4_worthOf_33 : decode cX4_worthOf 33 = .ok (.iinc 3 1, 3) := by decide +kernel
theorem dX4_worthOf_36 : decode cX4_worthOf 36 = .ok (.goto (-32), 3) := by decide +kernel
theorem dX4_worthOf_39 : decode cX4_worthOf 39 = .ok (.iload_n 2, 1) := by decide +kernel
theorem dX4_worthOf_40 : decode cX4_worthOf 40 = .ok (.ireturn, 1) := by decide +kernel
theorem dX4_worth_0 : decode cX4_worth 0 = .ok (.aload_n 0, 1) := by decide +kernel
theorem dX4_worth_1 : decode cX4_worth 1 = .ok (.getfield 104, 3) := by decide +kernel
theorem dX4_worth_4 : decode cX4_worth 4 = .ok (.ifCond .ne 6, 3) := by decide +kernel
theorem dX4_worth_7 : decode cX4_worth 7 = .ok (.bipush (-4), 2) := by decide +kernel
theorem dX4_worth_9 : decode cX4_worth 9 = .ok (.ireturn, 1) := by decide +kernel
theorem dX4_worth_10 : decode cX4_worth 10 = .ok (.aload_n 0, 1) := by decide +kernel
theorem dX4_worth_11 : decode cX4_worth 11 = .ok (.invokevirtual 181, 3) := by decide +kernel
theorem dX4_worth_14 : decode cX4_worth 14 = .ok (.aload_n 0, 1) := by decide +kernel
theorem dX4_worth_15 : decode cX4_worth 15 = .ok (.invokevirtual 190, 3) := by decide +kernel
theorem dX4_worth_18 : decode cX4_worth 18 = .ok (.iconst 0, 1) := by decide +kernel
theorem dX4_worth_19 : decode cX4_worth 19 = .ok (.istore_n 1, 1) := by decide +kernel
theorem dX4_worth_20 : decode cX4_worth 20 = .ok (.iconst 0, 1) := by decide +kernel
theorem dX4_worth_21 : decode cX4_worth 21 = .ok (.istore_n 2, 1) := by decide +kernel
theorem dX4_worth_22 : decode cX4_worth 22 = .ok (.iconst 0, 1) := by decide +kernel
theorem dX4_worth_23 : decode cX4_worth 23 = .ok (.istore_n 3, 1) := by decide +kernel
theorem dX4_worth_24 : decode cX4_worth 24 = .ok (.iload_n 3, 1) := by decide +kernel
theorem dX4_worth_25 : decode cX4_worth 25 = .ok (.iconst 1, 1) := by decide +kernel
theorem dX4_worth_26 : decode cX4_worth 26 = .ok (.aload_n 0, 1) := by decide +kernel
theorem dX4_worth_27 : decode cX4_worth 27 = .ok (.getfield 104, 3) := by decide +kernel
theorem dX4_worth_30 : decode cX4_worth 30 = .ok (.ishl, 1) := by decide +kernel
theorem dX4_worth_31 : decode cX4_worth 31 = .ok (.if_icmp .ge 52, 3) := by decide +kernel
theorem dX4_worth_34 : decode cX4_worth 34 = .ok (.aload_n 0, 1) := by decide +kernel
theorem dX4_worth_35 : decode cX4_worth 35 = .ok (.iload_n 3, 1) := by decide +kernel
theorem dX4_worth_36 : decode cX4_worth 36 = .ok (.invokevirtual 193, 3) := by decide +kernel
theorem dX4_worth_39 : decode cX4_worth 39 = .ok (.istore 4, 2) := by decide +kernel
theorem dX4_worth_41 : decode cX4_worth 41 = .ok (.aload_n 0, 1) := by decide +kernel
theorem dX4_worth_42 : decode cX4_worth 42 = .ok (.iload_n 3, 1) := by decide +kernel
theorem dX4_worth_43 : decode cX4_worth 43 = .ok (.invokevirtual 175, 3) := by decide +kernel
theorem dX4_worth_46 : decode cX4_worth 46 = .ok (.ifCond .le 31, 3) := by decide +kernel
theorem dX4_worth_49 : decode cX4_worth 49 = .ok (.iload 4, 2) := by decide +kernel
theorem dX4_worth_51 : decode cX4_worth 51 = .ok (.iload_n 1, 1) := by decide +kernel
theorem dX4_worth_52 : decode cX4_worth 52 = .ok (.if_icmp .gt 17, 3) := by decide +kernel
theorem dX4_worth_55 : decode cX4_worth 55 = .ok (.iload 4, 2) := by decide +kernel
theorem dX4_worth_57 : decode cX4_worth 57 = .ok (.iload_n 1, 1) := by decide +kernel
theorem dX4_worth_58 : decode cX4_worth 58 = .ok (.if_icmp .ne 19, 3) := by decide +kernel
theorem dX4_worth_61 : decode cX4_worth 61 = .ok (.iload_n 3, 1) := by decide +kernel
theorem dX4_worth_62 : decode cX4_worth 62 = .ok (.invokestatic 153, 3) := by decide +kernel
theorem dX4_worth_65 : decode cX4_worth 65 = .ok (.iload_n 2, 1) := by decide +kernel
theorem dX4_worth_66 : decode cX4_worth 66 = .ok (.if_icmp .ge 11, 3) := by decide +kernel
theorem dX4_worth_69 : decode cX4_worth 69 = .ok (.iload 4, 2) := by decide +kernel
theorem dX4_worth_71 : decode cX4_worth 71 = .ok (.istore_n 1, 1) := by decide +kernel
theorem dX4_worth_72 : decode cX4_worth 72 = .ok (.iload_n 3, 1) := by decide +kernel
theorem dX4_worth_73 : decode cX4_worth 73 = .ok (.invokestatic 153, 3) := by decide +kernel
theorem dX4_worth_76 : decode cX4_worth 76 = .ok (.istore_n 2, 1) := by decide +kernel
theorem dX4_worth_77 : decode cX4_worth 77 = .ok (.iinc 3 1, 3) := by decide +kernel
theorem dX4_worth_80 : decode cX4_worth 80 = .ok (.goto (-56), 3) := by decide +kernel
theorem dX4_worth_83 : decode cX4_worth 83 = .ok (.aload_n 0, 1) := by decide +kernel
theorem dX4_worth_84 : decode cX4_worth 84 = .ok (.iload_n 2, 1) := by decide +kernel
theorem dX4_worth_85 : decode cX4_worth 85 = .ok (.invokevirtual 89, 3) := by decide +kernel
theorem dX4_worth_88 : decode cX4_worth 88 = .ok (.pop, 1) := by decide +kernel
theorem dX4_worth_89 : decode cX4_worth 89 = .ok (.iload_n 1, 1) := by decide +kernel
theorem dX4_worth_90 : decode cX4_worth 90 = .ok (.ireturn, 1) := by decide +kernel
theorem dX4_orders_0 : decode cX4_orders 0 = .ok (.aload_n 0, 1) := by decide +kernel
theorem dX4_orders_1 : decode cX4_orders 1 = .ok (.getfield 104, 3) := by decide +kernel
theorem dX4_orders_4 : decode cX4_orders 4 = .ok (.ifCond .ne 6, 3) := by decide +kernel
theorem dX4_orders_7 : decode cX4_orders 7 = .ok (.bipush (-4), 2) := by decide +kernel
theorem dX4_orders_9 : decode cX4_orders 9 = .ok (.ireturn, 1) := by decide +kernel
theorem dX4_orders_10 : decode cX4_orders 10 = .ok (.aload_n 0, 1) := by decide +kernel
theorem dX4_orders_11 : decode cX4_orders 11 = .ok (.invokevirtual 181, 3) := by decide +kernel
theorem dX4_orders_14 : decode cX4_orders 14 = .ok (.aload_n 0, 1) := by decide +kernel
theorem dX4_orders_15 : decode cX4_orders 15 = .ok (.invokevirtual 190, 3) := by decide +kernel
theorem dX4_orders_18 : decode cX4_orders 18 = .ok (.aload_n 0, 1) := by decide +kernel
theorem dX4_orders_19 : decode cX4_orders 19 = .ok (.aload_n 0, 1) := by decide +kernel
theorem dX4_orders_20 : decode cX4_orders 20 = .ok (.invokevirtual 149, 3) := by decide +kernel
theorem dX4_orders_23 : decode cX4_orders 23 = .ok (.invokevirtual 175, 3) := by decide +kernel
theorem dX4_orders_26 : decode cX4_orders 26 = .ok (.ireturn, 1) := by decide +kernel
theorem dX4_takeTold_0 : decode cX4_takeTold 0 = .ok (.iconst 0, 1) := by decide +kernel
theorem dX4_takeTold_1 : decode cX4_takeTold 1 = .ok (.istore_n 1, 1) := by decide +kernel
theorem dX4_takeTold_2 : decode cX4_takeTold 2 = .ok (.iload_n 1, 1) := by decide +kernel
theorem dX4_takeTold_3 : decode cX4_takeTold 3 = .ok (.aload_n 0, 1) := by decide +kernel
theorem dX4_takeTold_4 : decode cX4_takeTold 4 = .ok (.getfield 104, 3) := by decide +kernel
theorem dX4_takeTold_7 : decode cX4_takeTold 7 = .ok (.if_icmp .ge 20, 3) := by decide +kernel
theorem dX4_takeTold_10 : decode cX4_takeTold 10 = .ok (.aload_n 0, 1) := by decide +kernel
theorem dX4_takeTold_11 : decode cX4_takeTold 11 = .ok (.getfield 60, 3) := by decide +kernel
theorem dX4_takeTold_14 : decode cX4_takeTold 14 = .ok (.iload_n 1, 1) := by decide +kernel
theorem dX4_takeTold_15 : decode cX4_takeTold 15 = .ok (.aload_n 0, 1) := by decide +kernel
theorem dX4_takeTold_16 : decode cX4_takeTold 16 = .ok (.iload_n 1, 1) := by decide +kernel
theorem dX4_takeTold_17 : decode cX4_takeTold 17 = .ok (.invokevirtual 113, 3) := by decide +kernel
theorem dX4_takeTold_20 : decode cX4_takeTold 20 = .ok (.iastore, 1) := by decide +kernel
theorem dX4_takeTold_21 : decode cX4_takeTold 21 = .ok (.iinc 1 1, 3) := by decide +kernel
theorem dX4_takeTold_24 : decode cX4_takeTold 24 = .ok (.goto (-22), 3) := by decide +kernel
theorem dX4_takeTold_27 : decode cX4_takeTold 27 = .ok (.return_, 1) := by decide +kernel
theorem dX4_meetAside_0 : decode cX4_meetAside 0 = .ok (.iload_n 1, 1) := by decide +kernel
theorem dX4_meetAside_1 : decode cX4_meetAside 1 = .ok (.aload_n 0, 1) := by decide +kernel
theorem dX4_meetAside_2 : decode cX4_meetAside 2 = .ok (.getfield 33, 3) := by decide +kernel
theorem dX4_meetAside_5 : decode cX4_meetAside 5 = .ok (.iload_n 1, 1) := by decide +kernel
theorem dX4_meetAside_6 : decode cX4_meetAside 6 = .ok (.iaload, 1) := by decide +kernel
theorem dX4_meetAside_7 : decode cX4_meetAside 7 = .ok (.aload_n 0, 1) := by decide +kernel
theorem dX4_meetAside_8 : decode cX4_meetAside 8 = .ok (.getfield 60, 3) := by decide +kernel
theorem dX4_meetAside_11 : decode cX4_meetAside 11 = .ok (.iload_n 1, 1) := by decide +kernel
theorem dX4_meetAside_12 : decode cX4_meetAside 12 = .ok (.iaload, 1) := by decide +kernel
theorem dX4_meetAside_13 : decode cX4_meetAside 13 = .ok (.invokestatic 116, 3) := by decide +kernel
theorem dX4_meetAside_16 : decode cX4_meetAside 16 = .ok (.istore_n 3, 1) := by decide +kernel
theorem dX4_meetAside_17 : decode cX4_meetAside 17 = .ok (.iload_n 2, 1) := by decide +kernel
theorem dX4_meetAside_18 : decode cX4_meetAside 18 = .ok (.aload_n 0, 1) := by decide +kernel
theorem dX4_meetAside_19 : decode cX4_meetAside 19 = .ok (.getfield 33, 3) := by decide +kernel
theorem dX4_meetAside_22 : decode cX4_meetAside 22 = .ok (.iload_n 2, 1) := by decide +kernel
theorem dX4_meetAside_23 : decode cX4_meetAside 23 = .ok (.iaload, 1) := by decide +kernel
theorem dX4_meetAside_24 : decode cX4_meetAside 24 = .ok (.aload_n 0, 1) := by decide +kernel
theorem dX4_meetAside_25 : decode cX4_meetAside 25 = .ok (.getfield 60, 3) := by decide +kernel
theorem dX4_meetAside_28 : decode cX4_meetAside 28 = .ok (.iload_n 2, 1) := by decide +kernel
theorem dX4_meetAside_29 : decode cX4_meetAside 29 = .ok (.iaload, 1) := by decide +kernel
theorem dX4_meetAside_30 : decode cX4_meetAside 30 = .ok (.invokestatic 116, 3) := by decide +kernel
theorem dX4_meetAside_33 : decode cX4_meetAside 33 = .ok (.istore 4, 2) := by decide +kernel
theorem dX4_meetAside_35 : decode cX4_meetAside 35 = .ok (.aload_n 0, 1) := by decide +kernel
theorem dX4_meetAside_36 : decode cX4_meetAside 36 = .ok (.getfield 60, 3) := by decide +kernel
theorem dX4_meetAside_39 : decode cX4_meetAside 39 = .ok (.iload_n 1, 1) := by decide +kernel
theorem dX4_meetAside_40 : decode cX4_meetAside 40 = .ok (.dup2, 1) := by decide +kernel
theorem dX4_meetAside_41 : decode cX4_meetAside 41 = .ok (.iaload, 1) := by decide +kernel
theorem dX4_meetAside_42 : decode cX4_meetAside 42 = .ok (.iload 4, 2) := by decide +kernel
theorem dX4_meetAside_44 : decode cX4_meetAside 44 = .ok (.iconst 1, 1) := by decide +kernel
theorem dX4_meetAside_45 : decode cX4_meetAside 45 = .ok (.iload_n 1, 1) := by decide +kernel
theorem dX4_meetAside_46 : decode cX4_meetAside 46 = .ok (.ishl, 1) := by decide +kernel
theorem dX4_meetAside_47 : decode cX4_meetAside 47 = .ok (.iconst (-1), 1) := by decide +kernel
theorem dX4_meetAside_48 : decode cX4_meetAside 48 = .ok (.ixor, 1) := by decide +kernel
theorem dX4_meetAside_49 : decode cX4_meetAside 49 = .ok (.iand, 1) := by decide +kernel
theorem dX4_meetAside_50 : decode cX4_meetAside 50 = .ok (.ior, 1) := by decide +kernel
theorem dX4_meetAside_51 : decode cX4_meetAside 51 = .ok (.iastore, 1) := by decide +kernel
theorem dX4_meetAside_52 : decode cX4_meetAside 52 = .ok (.aload_n 0, 1) := by decide +kernel
theorem dX4_meetAside_53 : decode cX4_meetAside 53 = .ok (.getfield 60, 3) := by decide +kernel
theorem dX4_meetAside_56 : decode cX4_meetAside 56 = .ok (.iload_n 2, 1) := by decide +kernel
theorem dX4_meetAside_57 : decode cX4_meetAside 57 = .ok (.dup2, 1) := by decide +kernel
theorem dX4_meetAside_58 : decode cX4_meetAside 58 = .ok (.iaload, 1) := by decide +kernel
theorem dX4_meetAside_59 : decode cX4_meetAside 59 = .ok (.iload_n 3, 1) := by decide +kernel
theorem dX4_meetAside_60 : decode cX4_meetAside 60 = .ok (.iconst 1, 1) := by decide +kernel
theorem dX4_meetAside_61 : decode cX4_meetAside 61 = .ok (.iload_n 2, 1) := by decide +kernel
theorem dX4_meetAside_62 : decode cX4_meetAside 62 = .ok (.ishl, 1) := by decide +kernel
theorem dX4_meetAside_63 : decode cX4_meetAside 63 = .ok (.iconst (-1), 1) := by decide +kernel
theorem dX4_meetAside_64 : decode cX4_meetAside 64 = .ok (.ixor, 1) := by decide +kernel
theorem dX4_meetAside_65 : decode cX4_meetAside 65 = .ok (.iand, 1) := by decide +kernel
theorem dX4_meetAside_66 : decode cX4_meetAside 66 = .ok (.ior, 1) := by decide +kernel
theorem dX4_meetAside_67 : decode cX4_meetAside 67 = .ok (.iastore, 1) := by decide +kernel
theorem dX4_meetAside_68 : decode cX4_meetAside 68 = .ok (.return_, 1) := by decide +kernel
theorem dX4_canAll_0 : decode cX4_canAll 0 = .ok (.iconst 0, 1) := by decide +kernel
theorem dX4_canAll_1 : decode cX4_canAll 1 = .ok (.istore_n 1, 1) := by decide +kernel
theorem dX4_canAll_2 : decode cX4_canAll 2 = .ok (.iload_n 1, 1) := by decide +kernel
theorem dX4_canAll_3 : decode cX4_canAll 3 = .ok (.aload_n 0, 1) := by decide +kernel
theorem dX4_canAll_4 : decode cX4_canAll 4 = .ok (.getfield 104, 3) := by decide +kernel
theorem dX4_canAll_7 : decode cX4_canAll 7 = .ok (.if_icmp .ge 26, 3) := by decide +kernel
theorem dX4_canAll_10 : decode cX4_canAll 10 = .ok (.aload_n 0, 1) := by decide +kernel
theorem dX4_canAll_11 : decode cX4_canAll 11 = .ok (.getfield 51, 3) := by decide +kernel
theorem dX4_canAll_14 : decode cX4_canAll 14 = .ok (.iload_n 1, 1) := by decide +kernel
theorem dX4_canAll_15 : decode cX4_canAll 15 = .ok (.aload_n 0, 1) := by decide +kernel
theorem dX4_canAll_16 : decode cX4_canAll 16 = .ok (.iload_n 1, 1) := by decide +kernel
theorem dX4_canAll_17 : decode cX4_canAll 17 = .ok (.aload_n 0, 1) := by decide +kernel
theorem dX4_canAll_18 : decode cX4_canAll 18 = .ok (.getfield 60, 3) := by decide +kernel
theorem dX4_canAll_21 : decode cX4_canAll 21 = .ok (.iload_n 1, 1) := by decide +kernel
theorem dX4_canAll_22 : decode cX4_canAll 22 = .ok (.iaload, 1) := by decide +kernel
theorem dX4_canAll_23 : decode cX4_canAll 23 = .ok (.invokevirtual 127, 3) := by decide +kernel
theorem dX4_canAll_26 : decode cX4_canAll 26 = .ok (.iastore, 1) := by decide +kernel
theorem dX4_canAll_27 : decode cX4_canAll 27 = .ok (.iinc 1 1, 3) := by decide +kernel
theorem dX4_canAll_30 : decode cX4_canAll 30 = .ok (.goto (-28), 3) := by decide +kernel
theorem dX4_canAll_33 : decode cX4_canAll 33 = .ok (.aload_n 0, 1) := by decide +kernel
theorem dX4_canAll_34 : decode cX4_canAll 34 = .ok (.invokevirtual 190, 3) := by decide +kernel
theorem dX4_canAll_37 : decode cX4_canAll 37 = .ok (.aload_n 0, 1) := by decide +kernel
theorem dX4_canAll_38 : decode cX4_canAll 38 = .ok (.aload_n 0, 1) := by decide +kernel
theorem dX4_canAll_39 : decode cX4_canAll 39 = .ok (.invokevirtual 149, 3) := by decide +kernel
theorem dX4_canAll_42 : decode cX4_canAll 42 = .ok (.invokevirtual 175, 3) := by decide +kernel
theorem dX4_canAll_45 : decode cX4_canAll 45 = .ok (.ifCond .le 7, 3) := by decide +kernel
theorem dX4_canAll_48 : decode cX4_canAll 48 = .ok (.iconst 1, 1) := by decide +kernel
theorem dX4_canAll_49 : decode cX4_canAll 49 = .ok (.goto 4, 3) := by decide +kernel
theorem dX4_canAll_52 : decode cX4_canAll 52 = .ok (.iconst 0, 1) := by decide +kernel
theorem dX4_canAll_53 : decode cX4_canAll 53 = .ok (.ireturn, 1) := by decide +kernel
theorem dX4_areTwo_0 : decode cX4_areTwo 0 = .ok (.iload_n 1, 1) := by decide +kernel
theorem dX4_areTwo_1 : decode cX4_areTwo 1 = .ok (.bipush 10, 2) := by decide +kernel
theorem dX4_areTwo_3 : decode cX4_areTwo 3 = .ok (.idiv, 1) := by decide +kernel
theorem dX4_areTwo_4 : decode cX4_areTwo 4 = .ok (.istore_n 2, 1) := by decide +kernel
theorem dX4_areTwo_5 : decode cX4_areTwo 5 = .ok (.iload_n 1, 1) := by decide +kernel
theorem dX4_areTwo_6 : decode cX4_areTwo 6 = .ok (.bipush 10, 2) := by decide +kernel
theorem dX4_areTwo_8 : decode cX4_areTwo 8 = .ok (.irem, 1) := by decide +kernel
theorem dX4_areTwo_9 : decode cX4_areTwo 9 = .ok (.istore_n 3, 1) := by decide +kernel
theorem dX4_areTwo_10 : decode cX4_areTwo 10 = .ok (.iload_n 2, 1) := by decide +kernel
theorem dX4_areTwo_11 : decode cX4_areTwo 11 = .ok (.iload_n 3, 1) := by decide +kernel
theorem dX4_areTwo_12 : decode cX4_areTwo 12 = .ok (.if_icmp .ge 37, 3) := by decide +kernel
theorem dX4_areTwo_15 : decode cX4_areTwo 15 = .ok (.iload_n 3, 1) := by decide +kernel
theorem dX4_areTwo_16 : decode cX4_areTwo 16 = .ok (.aload_n 0, 1) := by decide +kernel
theorem dX4_areTwo_17 : decode cX4_areTwo 17 = .ok (.getfield 104, 3) := by decide +kernel
theorem dX4_areTwo_20 : decode cX4_areTwo 20 = .ok (.if_icmp .ge 29, 3) := by decide +kernel
theorem dX4_areTwo_23 : decode cX4_areTwo 23 = .ok (.aload_n 0, 1) := by decide +kernel
theorem dX4_areTwo_24 : decode cX4_areTwo 24 = .ok (.invokevirtual 149, 3) := by decide +kernel
theorem dX4_areTwo_27 : decode cX4_areTwo 27 = .ok (.iload_n 2, 1) := by decide +kernel
theorem dX4_areTwo_28 : decode cX4_areTwo 28 = .ok (.invokestatic 123, 3) := by decide +kernel
theorem dX4_areTwo_31 : decode cX4_areTwo 31 = .ok (.ifCond .eq 18, 3) := by decide +kernel
theorem dX4_areTwo_34 : decode cX4_areTwo 34 = .ok (.aload_n 0, 1) := by decide +kernel
theorem dX4_areTwo_35 : decode cX4_areTwo 35 = .ok (.invokevirtual 149, 3) := by decide +kernel
theorem dX4_areTwo_38 : decode cX4_areTwo 38 = .ok (.iload_n 3, 1) := by decide +kernel
theorem dX4_areTwo_39 : decode cX4_areTwo 39 = .ok (.invokestatic 123, 3) := by decide +kernel
theorem dX4_areTwo_42 : decode cX4_areTwo 42 = .ok (.ifCond .eq 7, 3) := by decide +kernel
theorem dX4_areTwo_45 : decode cX4_areTwo 45 = .ok (.iconst 1, 1) := by decide +kernel
theorem dX4_areTwo_46 : decode cX4_areTwo 46 = .ok (.goto 4, 3) := by decide +kernel
theorem dX4_areTwo_49 : decode cX4_areTwo 49 = .ok (.iconst 0, 1) := by decide +kernel
theorem dX4_areTwo_50 : decode cX4_areTwo 50 = .ok (.ireturn, 1) := by decide +kernel
theorem dX4_meetings_0 : decode cX4_meetings 0 = .ok (.aload_n 0, 1) := by decide +kernel
theorem dX4_meetings_1 : decode cX4_meetings 1 = .ok (.getfield 104, 3) := by decide +kernel
theorem dX4_meetings_4 : decode cX4_meetings 4 = .ok (.ifCond .ne 6, 3) := by decide +kernel
theorem dX4_meetings_7 : decode cX4_meetings 7 = .ok (.bipush (-4), 2) := by decide +kernel
theorem dX4_meetings_9 : decode cX4_meetings 9 = .ok (.ireturn, 1) := by decide +kernel
theorem dX4_meetings_10 : decode cX4_meetings 10 = .ok (.aload_n 0, 1) := by decide +kernel
theorem dX4_meetings_11 : decode cX4_meetings 11 = .ok (.invokevirtual 196, 3) := by decide +kernel
theorem dX4_meetings_14 : decode cX4_meetings 14 = .ok (.aload_n 0, 1) := by decide +kernel
theorem dX4_meetings_15 : decode cX4_meetings 15 = .ok (.invokevirtual 199, 3) := by decide +kernel
theorem dX4_meetings_18 : decode cX4_meetings 18 = .ok (.ifCond .eq 11, 3) := by decide +kernel
theorem dX4_meetings_21 : decode cX4_meetings 21 = .ok (.aload_n 0, 1) := by decide +kernel
theorem dX4_meetings_22 : decode cX4_meetings 22 = .ok (.iconst 0, 1) := by decide +kernel
theorem dX4_meetings_23 : decode cX4_meetings 23 = .ok (.invokevirtual 89, 3) := by decide +kernel
theorem dX4_meetings_26 : decode cX4_meetings 26 = .ok (.pop, 1) := by decide +kernel
theorem dX4_meetings_27 : decode cX4_meetings 27 = .ok (.iconst 0, 1) := by decide +kernel
theorem dX4_meetings_28 : decode cX4_meetings 28 = .ok (.ireturn, 1) := by decide +kernel
theorem dX4_meetings_29 : decode cX4_meetings 29 = .ok (.iconst 1, 1) := by decide +kernel
theorem dX4_meetings_30 : decode cX4_meetings 30 = .ok (.istore_n 1, 1) := by decide +kernel
theorem dX4_meetings_31 : decode cX4_meetings 31 = .ok (.iload_n 1, 1) := by decide +kernel
theorem dX4_meetings_32 : decode cX4_meetings 32 = .ok (.bipush 56, 2) := by decide +kernel
theorem dX4_meetings_34 : decode cX4_meetings 34 = .ok (.if_icmp .gt 48, 3) := by decide +kernel
theorem dX4_meetings_37 : decode cX4_meetings 37 = .ok (.aload_n 0, 1) := by decide +kernel
theorem dX4_meetings_38 : decode cX4_meetings 38 = .ok (.iload_n 1, 1) := by decide +kernel
theorem dX4_meetings_39 : decode cX4_meetings 39 = .ok (.invokevirtual 203, 3) := by decide +kernel
theorem dX4_meetings_42 : decode cX4_meetings 42 = .ok (.ifCond .eq 34, 3) := by decide +kernel
theorem dX4_meetings_45 : decode cX4_meetings 45 = .ok (.aload_n 0, 1) := by decide +kernel
theorem dX4_meetings_46 : decode cX4_meetings 46 = .ok (.invokevirtual 196, 3) := by decide +kernel
theorem dX4_meetings_49 : decode cX4_meetings 49 = .ok (.aload_n 0, 1) := by decide +kernel
theorem dX4_meetings_50 : decode cX4_meetings 50 = .ok (.iload_n 1, 1) := by decide +kernel
theorem dX4_meetings_51 : decode cX4_meetings 51 = .ok (.bipush 10, 2) := by decide +kernel
theorem dX4_meetings_53 : decode cX4_meetings 53 = .ok (.idiv, 1) := by decide +kernel
theorem dX4_meetings_54 : decode cX4_meetings 54 = .ok (.iload_n 1, 1) := by decide +kernel
theorem dX4_meetings_55 : decode cX4_meetings 55 = .ok (.bipush 10, 2) := by decide +kernel
theorem dX4_meetings_57 : decode cX4_meetings 57 = .ok (.irem, 1) := by decide +kernel
theorem dX4_meetings_58 : decode cX4_meetings 58 = .ok (.invokevirtual 206, 3) := by decide +kernel
theorem dX4_meetings_61 : decode cX4_meetings 61 = .ok (.aload_n 0, 1) := by decide +kernel
theorem dX4_meetings_62 : decode cX4_meetings 62 = .ok (.invokevirtual 199, 3) := by decide +kernel
theorem dX4_meetings_65 : decode cX4_meetings 65 = .ok (.ifCond .eq 11, 3) := by decide +kernel
theorem dX4_meetings_68 : decode cX4_meetings 68 = .ok (.aload_n 0, 1) := by decide +kernel
theorem dX4_meetings_69 : decode cX4_meetings 69 = .ok (.iload_n 1, 1) := by decide +kernel
theorem dX4_meetings_70 : decode cX4_meetings 70 = .ok (.invokevirtual 89, 3) := by decide +kernel
theorem dX4_meetings_73 : decode cX4_meetings 73 = .ok (.pop, 1) := by decide +kernel
theorem dX4_meetings_74 : decode cX4_meetings 74 = .ok (.iconst 1, 1) := by decide +kernel
theorem dX4_meetings_75 : decode cX4_meetings 75 = .ok (.ireturn, 1) := by decide +kernel
theorem dX4_meetings_76 : decode cX4_meetings 76 = .ok (.iinc 1 1, 3) := by decide +kernel
theorem dX4_meetings_79 : decode cX4_meetings 79 = .ok (.goto (-48), 3) := by decide +kernel
theorem dX4_meetings_82 : decode cX4_meetings 82 = .ok (.iconst 1, 1) := by decide +kernel
theorem dX4_meetings_83 : decode cX4_meetings 83 = .ok (.istore_n 1, 1) := by decide +kernel
theorem dX4_meetings_84 : decode cX4_meetings 84 = .ok (.iload_n 1, 1) := by decide +kernel
theorem dX4_meetings_85 : decode cX4_meetings 85 = .ok (.bipush 56, 2) := by decide +kernel
theorem dX4_meetings_87 : decode cX4_meetings 87 = .ok (.if_icmp .gt 87, 3) := by decide +kernel
theorem dX4_meetings_90 : decode cX4_meetings 90 = .ok (.iconst 1, 1) := by decide +kernel
theorem dX4_meetings_91 : decode cX4_meetings 91 = .ok (.istore_n 2, 1) := by decide +kernel
theorem dX4_meetings_92 : decode cX4_meetings 92 = .ok (.iload_n 2, 1) := by decide +kernel
theorem dX4_meetings_93 : decode cX4_meetings 93 = .ok (.bipush 56, 2) := by decide +kernel
theorem dX4_meetings_95 : decode cX4_meetings 95 = .ok (.if_icmp .gt 73, 3) := by decide +kernel
theorem dX4_meetings_98 : decode cX4_meetings 98 = .ok (.aload_n 0, 1) := by decide +kernel
theorem dX4_meetings_99 : decode cX4_meetings 99 = .ok (.iload_n 1, 1) := by decide +kernel
theorem dX4_meetings_100 : decode cX4_meetings 100 = .ok (.invokevirtual 203, 3) := by decide +kernel
theorem dX4_meetings_103 : decode cX4_meetings 103 = .ok (.ifCond .eq 65, 3) := by decide +kernel
theorem dX4_meetings_106 : decode cX4_meetings 106 = .ok (.aload_n 0, 1) := by decide +kernel
theorem dX4_meetings_107 : decode cX4_meetings 107 = .ok (.iload_n 2, 1) := by decide +kernel
theorem dX4_meetings_108 : decode cX4_meetings 108 = .ok (.invokevirtual 203, 3) := by decide +kernel
theorem dX4_meetings_111 : decode cX4_meetings 111 = .ok (.ifCond .eq 51, 3) := by decide +kernel
theorem dX4_meetings_114 : decode cX4_meetings 114 = .ok (.aload_n 0, 1) := by decide +kernel
theorem dX4_meetings_115 : decode cX4_meetings 115 = .ok (.invokevirtual 196, 3) := by decide +kernel
theorem dX4_meetings_118 : decode cX4_meetings 118 = .ok (.aload_n 0, 1) := by decide +kernel
theorem dX4_meetings_119 : decode cX4_meetings 119 = .ok (.iload_n 1, 1) := by decide +kernel
theorem dX4_meetings_120 : decode cX4_meetings 120 = .ok (.bipush 10, 2) := by decide +kernel
theorem dX4_meetings_122 : decode cX4_meetings 122 = .ok (.idiv, 1) := by decide +kernel
theorem dX4_meetings_123 : decode cX4_meetings 123 = .ok (.iload_n 1, 1) := by decide +kernel
theorem dX4_meetings_124 : decode cX4_meetings 124 = .ok (.bipush 10, 2) := by decide +kernel
theorem dX4_meetings_126 : decode cX4_meetings 126 = .ok (.irem, 1) := by decide +kernel
theorem dX4_meetings_127 : decode cX4_meetings 127 = .ok (.invokevirtual 206, 3) := by decide +kernel
theorem dX4_meetings_130 : decode cX4_meetings 130 = .ok (.aload_n 0, 1) := by decide +kernel
theorem dX4_meetings_131 : decode cX4_meetings 131 = .ok (.iload_n 2, 1) := by decide +kernel
theorem dX4_meetings_132 : decode cX4_meetings 132 = .ok (.bipush 10, 2) := by decide +kernel
