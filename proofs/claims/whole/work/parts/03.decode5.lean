theorem dX4_meetings_134 : decode cX4_meetings 134 = .ok (.idiv, 1) := by decide +kernel
theorem dX4_meetings_135 : decode cX4_meetings 135 = .ok (.iload_n 2, 1) := by decide +kernel
theorem dX4_meetings_136 : decode cX4_meetings 136 = .ok (.bipush 10, 2) := by decide +kernel
theorem dX4_meetings_138 : decode cX4_meetings 138 = .ok (.irem, 1) := by decide +kernel
theorem dX4_meetings_139 : decode cX4_meetings 139 = .ok (.invokevirtual 206, 3) := by decide +kernel
theorem dX4_meetings_142 : decode cX4_meetings 142 = .ok (.aload_n 0, 1) := by decide +kernel
theorem dX4_meetings_143 : decode cX4_meetings 143 = .ok (.invokevirtual 199, 3) := by decide +kernel
theorem dX4_meetings_146 : decode cX4_meetings 146 = .ok (.ifCond .eq 16, 3) := by decide +kernel
theorem dX4_meetings_149 : decode cX4_meetings 149 = .ok (.aload_n 0, 1) := by decide +kernel
theorem dX4_meetings_150 : decode cX4_meetings 150 = .ok (.bipush 100, 2) := by decide +kernel
theorem dX4_meetings_152 : decode cX4_meetings 152 = .ok (.iload_n 1, 1) := by decide +kernel
theorem dX4_meetings_153 : decode cX4_meetings 153 = .ok (.imul, 1) := by decide +kernel
theorem dX4_meetings_154 : decode cX4_meetings 154 = .ok (.iload_n 2, 1) := by decide +kernel
theorem dX4_meetings_155 : decode cX4_meetings 155 = .ok (.iadd, 1) := by decide +kernel
theorem dX4_meetings_156 : decode cX4_meetings 156 = .ok (.invokevirtual 89, 3) := by decide +kernel
theorem dX4_meetings_159 : decode cX4_meetings 159 = .ok (.pop, 1) := by decide +kernel
theorem dX4_meetings_160 : decode cX4_meetings 160 = .ok (.iconst 2, 1) := by decide +kernel
theorem dX4_meetings_161 : decode cX4_meetings 161 = .ok (.ireturn, 1) := by decide +kernel
theorem dX4_meetings_162 : decode cX4_meetings 162 = .ok (.iinc 2 1, 3) := by decide +kernel
theorem dX4_meetings_165 : decode cX4_meetings 165 = .ok (.goto (-73), 3) := by decide +kernel
theorem dX4_meetings_168 : decode cX4_meetings 168 = .ok (.iinc 1 1, 3) := by decide +kernel
theorem dX4_meetings_171 : decode cX4_meetings 171 = .ok (.goto (-87), 3) := by decide +kernel
theorem dX4_meetings_174 : decode cX4_meetings 174 = .ok (.bipush (-9), 2) := by decide +kernel
theorem dX4_meetings_176 : decode cX4_meetings 176 = .ok (.ireturn, 1) := by decide +kernel
theorem dX4_stone_0 : decode cX4_stone 0 = .ok (.aload_n 0, 1) := by decide +kernel
theorem dX4_stone_1 : decode cX4_stone 1 = .ok (.getfield 104, 3) := by decide +kernel
theorem dX4_stone_4 : decode cX4_stone 4 = .ok (.ifCond .ne 6, 3) := by decide +kernel
theorem dX4_stone_7 : decode cX4_stone 7 = .ok (.bipush (-4), 2) := by decide +kernel
theorem dX4_stone_9 : decode cX4_stone 9 = .ok (.ireturn, 1) := by decide +kernel
theorem dX4_stone_10 : decode cX4_stone 10 = .ok (.bipush (-9), 2) := by decide +kernel
theorem dX4_stone_12 : decode cX4_stone 12 = .ok (.istore_n 1, 1) := by decide +kernel
theorem dX4_stone_13 : decode cX4_stone 13 = .ok (.bipush (-9), 2) := by decide +kernel
theorem dX4_stone_15 : decode cX4_stone 15 = .ok (.istore_n 2, 1) := by decide +kernel
theorem dX4_stone_16 : decode cX4_stone 16 = .ok (.iconst 0, 1) := by decide +kernel
theorem dX4_stone_17 : decode cX4_stone 17 = .ok (.istore_n 3, 1) := by decide +kernel
theorem dX4_stone_18 : decode cX4_stone 18 = .ok (.iload_n 3, 1) := by decide +kernel
theorem dX4_stone_19 : decode cX4_stone 19 = .ok (.aload_n 0, 1) := by decide +kernel
theorem dX4_stone_20 : decode cX4_stone 20 = .ok (.getfield 104, 3) := by decide +kernel
theorem dX4_stone_23 : decode cX4_stone 23 = .ok (.if_icmp .ge 126, 3) := by decide +kernel
theorem dX4_stone_26 : decode cX4_stone 26 = .ok (.aload_n 0, 1) := by decide +kernel
theorem dX4_stone_27 : decode cX4_stone 27 = .ok (.iload_n 3, 1) := by decide +kernel
theorem dX4_stone_28 : decode cX4_stone 28 = .ok (.invokevirtual 131, 3) := by decide +kernel
theorem dX4_stone_31 : decode cX4_stone 31 = .ok (.ifCond .ne 112, 3) := by decide +kernel
theorem dX4_stone_34 : decode cX4_stone 34 = .ok (.aload_n 0, 1) := by decide +kernel
theorem dX4_stone_35 : decode cX4_stone 35 = .ok (.bipush 9, 2) := by decide +kernel
theorem dX4_stone_37 : decode cX4_stone 37 = .ok (.invokevirtual 110, 3) := by decide +kernel
theorem dX4_stone_40 : decode cX4_stone 40 = .ok (.aload_n 0, 1) := by decide +kernel
theorem dX4_stone_41 : decode cX4_stone 41 = .ok (.iload_n 3, 1) := by decide +kernel
theorem dX4_stone_42 : decode cX4_stone 42 = .ok (.invokevirtual 140, 3) := by decide +kernel
theorem dX4_stone_45 : decode cX4_stone 45 = .ok (.ior, 1) := by decide +kernel
theorem dX4_stone_46 : decode cX4_stone 46 = .ok (.istore 4, 2) := by decide +kernel
theorem dX4_stone_48 : decode cX4_stone 48 = .ok (.iconst 0, 1) := by decide +kernel
theorem dX4_stone_49 : decode cX4_stone 49 = .ok (.istore 5, 2) := by decide +kernel
theorem dX4_stone_51 : decode cX4_stone 51 = .ok (.iload 5, 2) := by decide +kernel
theorem dX4_stone_53 : decode cX4_stone 53 = .ok (.aload_n 0, 1) := by decide +kernel
theorem dX4_stone_54 : decode cX4_stone 54 = .ok (.getfield 104, 3) := by decide +kernel
theorem dX4_stone_57 : decode cX4_stone 57 = .ok (.if_icmp .ge 61, 3) := by decide +kernel
theorem dX4_stone_60 : decode cX4_stone 60 = .ok (.iload 5, 2) := by decide +kernel
theorem dX4_stone_62 : decode cX4_stone 62 = .ok (.iload_n 3, 1) := by decide +kernel
theorem dX4_stone_63 : decode cX4_stone 63 = .ok (.if_icmp .eq 24, 3) := by decide +kernel
theorem dX4_stone_66 : decode cX4_stone 66 = .ok (.aload_n 0, 1) := by decide +kernel
theorem dX4_stone_67 : decode cX4_stone 67 = .ok (.iload 5, 2) := by decide +kernel
theorem dX4_stone_69 : decode cX4_stone 69 = .ok (.invokevirtual 131, 3) := by decide +kernel
theorem dX4_stone_72 : decode cX4_stone 72 = .ok (.ifCond .ne 15, 3) := by decide +kernel
theorem dX4_stone_75 : decode cX4_stone 75 = .ok (.iload 4, 2) := by decide +kernel
theorem dX4_stone_77 : decode cX4_stone 77 = .ok (.iconst 1, 1) := by decide +kernel
theorem dX4_stone_78 : decode cX4_stone 78 = .ok (.iload 5, 2) := by decide +kernel
theorem dX4_stone_80 : decode cX4_stone 80 = .ok (.ishl, 1) := by decide +kernel
theorem dX4_stone_81 : decode cX4_stone 81 = .ok (.iconst (-1), 1) := by decide +kernel
theorem dX4_stone_82 : decode cX4_stone 82 = .ok (.ixor, 1) := by decide +kernel
theorem dX4_stone_83 : decode cX4_stone 83 = .ok (.iand, 1) := by decide +kernel
theorem dX4_stone_84 : decode cX4_stone 84 = .ok (.goto 4, 3) := by decide +kernel
theorem dX4_stone_87 : decode cX4_stone 87 = .ok (.iconst 0, 1) := by decide +kernel
theorem dX4_stone_88 : decode cX4_stone 88 = .ok (.istore 6, 2) := by decide +kernel
theorem dX4_stone_90 : decode cX4_stone 90 = .ok (.aload_n 0, 1) := by decide +kernel
theorem dX4_stone_91 : decode cX4_stone 91 = .ok (.getfield 51, 3) := by decide +kernel
theorem dX4_stone_94 : decode cX4_stone 94 = .ok (.iload 5, 2) := by decide +kernel
theorem dX4_stone_96 : decode cX4_stone 96 = .ok (.aload_n 0, 1) := by decide +kernel
theorem dX4_stone_97 : decode cX4_stone 97 = .ok (.iload 5, 2) := by decide +kernel
theorem dX4_stone_99 : decode cX4_stone 99 = .ok (.aload_n 0, 1) := by decide +kernel
theorem dX4_stone_100 : decode cX4_stone 100 = .ok (.iload 5, 2) := by decide +kernel
theorem dX4_stone_102 : decode cX4_stone 102 = .ok (.invokevirtual 113, 3) := by decide +kernel
theorem dX4_stone_105 : decode cX4_stone 105 = .ok (.iload 6, 2) := by decide +kernel
theorem dX4_stone_107 : decode cX4_stone 107 = .ok (.ior, 1) := by decide +kernel
theorem dX4_stone_108 : decode cX4_stone 108 = .ok (.invokevirtual 127, 3) := by decide +kernel
theorem dX4_stone_111 : decode cX4_stone 111 = .ok (.iastore, 1) := by decide +kernel
theorem dX4_stone_112 : decode cX4_stone 112 = .ok (.iinc 5 1, 3) := by decide +kernel
theorem dX4_stone_115 : decode cX4_stone 115 = .ok (.goto (-64), 3) := by decide +kernel
theorem dX4_stone_118 : decode cX4_stone 118 = .ok (.aload_n 0, 1) := by decide +kernel
theorem dX4_stone_119 : decode cX4_stone 119 = .ok (.invokevirtual 190, 3) := by decide +kernel
theorem dX4_stone_122 : decode cX4_stone 122 = .ok (.aload_n 0, 1) := by decide +kernel
theorem dX4_stone_123 : decode cX4_stone 123 = .ok (.aload_n 0, 1) := by decide +kernel
theorem dX4_stone_124 : decode cX4_stone 124 = .ok (.invokevirtual 149, 3) := by decide +kernel
theorem dX4_stone_127 : decode cX4_stone 127 = .ok (.invokevirtual 210, 3) := by decide +kernel
theorem dX4_stone_130 : decode cX4_stone 130 = .ok (.istore 5, 2) := by decide +kernel
theorem dX4_stone_132 : decode cX4_stone 132 = .ok (.iload 5, 2) := by decide +kernel
theorem dX4_stone_134 : decode cX4_stone 134 = .ok (.iload_n 2, 1) := by decide +kernel
theorem dX4_stone_135 : decode cX4_stone 135 = .ok (.if_icmp .le 8, 3) := by decide +kernel
theorem dX4_stone_138 : decode cX4_stone 138 = .ok (.iload_n 3, 1) := by decide +kernel
theorem dX4_stone_139 : decode cX4_stone 139 = .ok (.istore_n 1, 1) := by decide +kernel
theorem dX4_stone_140 : decode cX4_stone 140 = .ok (.iload 5, 2) := by decide +kernel
theorem dX4_stone_142 : decode cX4_stone 142 = .ok (.istore_n 2, 1) := by decide +kernel
theorem dX4_stone_143 : decode cX4_stone 143 = .ok (.iinc 3 1, 3) := by decide +kernel
theorem dX4_stone_146 : decode cX4_stone 146 = .ok (.goto (-128), 3) := by decide +kernel
theorem dX4_stone_149 : decode cX4_stone 149 = .ok (.iload_n 1, 1) := by decide +kernel
theorem dX4_stone_150 : decode cX4_stone 150 = .ok (.bipush (-9), 2) := by decide +kernel
theorem dX4_stone_152 : decode cX4_stone 152 = .ok (.if_icmp .eq 9, 3) := by decide +kernel
theorem dX4_stone_155 : decode cX4_stone 155 = .ok (.aload_n 0, 1) := by decide +kernel
theorem dX4_stone_156 : decode cX4_stone 156 = .ok (.iload_n 2, 1) := by decide +kernel
theorem dX4_stone_157 : decode cX4_stone 157 = .ok (.invokevirtual 89, 3) := by decide +kernel
theorem dX4_stone_160 : decode cX4_stone 160 = .ok (.pop, 1) := by decide +kernel
theorem dX4_stone_161 : decode cX4_stone 161 = .ok (.iload_n 1, 1) := by decide +kernel
theorem dX4_stone_162 : decode cX4_stone 162 = .ok (.ireturn, 1) := by decide +kernel
theorem dX4_hold_0 : decode cX4_hold 0 = .ok (.aload_n 0, 1) := by decide +kernel
theorem dX4_hold_1 : decode cX4_hold 1 = .ok (.getfield 104, 3) := by decide +kernel
theorem dX4_hold_4 : decode cX4_hold 4 = .ok (.ifCond .ne 6, 3) := by decide +kernel
theorem dX4_hold_7 : decode cX4_hold 7 = .ok (.bipush (-4), 2) := by decide +kernel
theorem dX4_hold_9 : decode cX4_hold 9 = .ok (.ireturn, 1) := by decide +kernel
theorem dX4_hold_10 : decode cX4_hold 10 = .ok (.aload_n 0, 1) := by decide +kernel
theorem dX4_hold_11 : decode cX4_hold 11 = .ok (.invokevirtual 181, 3) := by decide +kernel
theorem dX4_hold_14 : decode cX4_hold 14 = .ok (.aload_n 0, 1) := by decide +kernel
theorem dX4_hold_15 : decode cX4_hold 15 = .ok (.invokevirtual 190, 3) := by decide +kernel
theorem dX4_hold_18 : decode cX4_hold 18 = .ok (.bipush (-9), 2) := by decide +kernel
theorem dX4_hold_20 : decode cX4_hold 20 = .ok (.istore_n 1, 1) := by decide +kernel
theorem dX4_hold_21 : decode cX4_hold 21 = .ok (.bipush 8, 2) := by decide +kernel
theorem dX4_hold_23 : decode cX4_hold 23 = .ok (.istore_n 2, 1) := by decide +kernel
theorem dX4_hold_24 : decode cX4_hold 24 = .ok (.iconst 0, 1) := by decide +kernel
theorem dX4_hold_25 : decode cX4_hold 25 = .ok (.istore_n 3, 1) := by decide +kernel
theorem dX4_hold_26 : decode cX4_hold 26 = .ok (.iload_n 3, 1) := by decide +kernel
theorem dX4_hold_27 : decode cX4_hold 27 = .ok (.aload_n 0, 1) := by decide +kernel
theorem dX4_hold_28 : decode cX4_hold 28 = .ok (.getfield 104, 3) := by decide +kernel
theorem dX4_hold_31 : decode cX4_hold 31 = .ok (.if_icmp .ge 44, 3) := by decide +kernel
theorem dX4_hold_34 : decode cX4_hold 34 = .ok (.aload_n 0, 1) := by decide +kernel
theorem dX4_hold_35 : decode cX4_hold 35 = .ok (.iload_n 3, 1) := by decide +kernel
theorem dX4_hold_36 : decode cX4_hold 36 = .ok (.invokevirtual 131, 3) := by decide +kernel
theorem dX4_hold_39 : decode cX4_hold 39 = .ok (.ifCond .ne 30, 3) := by decide +kernel
theorem dX4_hold_42 : decode cX4_hold 42 = .ok (.aload_n 0, 1) := by decide +kernel
theorem dX4_hold_43 : decode cX4_hold 43 = .ok (.aload_n 0, 1) := by decide +kernel
theorem dX4_hold_44 : decode cX4_hold 44 = .ok (.invokevirtual 149, 3) := by decide +kernel
theorem dX4_hold_47 : decode cX4_hold 47 = .ok (.iconst 1, 1) := by decide +kernel
theorem dX4_hold_48 : decode cX4_hold 48 = .ok (.iload_n 3, 1) := by decide +kernel
theorem dX4_hold_49 : decode cX4_hold 49 = .ok (.ishl, 1) := by decide +kernel
theorem dX4_hold_50 : decode cX4_hold 50 = .ok (.iconst (-1), 1) := by decide +kernel
theorem dX4_hold_51 : decode cX4_hold 51 = .ok (.ixor, 1) := by decide +kernel
theorem dX4_hold_52 : decode cX4_hold 52 = .ok (.iand, 1) := by decide +kernel
theorem dX4_hold_53 : decode cX4_hold 53 = .ok (.invokevirtual 210, 3) := by decide +kernel
theorem dX4_hold_56 : decode cX4_hold 56 = .ok (.istore 4, 2) := by decide +kernel
theorem dX4_hold_58 : decode cX4_hold 58 = .ok (.iload 4, 2) := by decide +kernel
theorem dX4_hold_60 : decode cX4_hold 60 = .ok (.iload_n 2, 1) := by decide +kernel
theorem dX4_hold_61 : decode cX4_hold 61 = .ok (.if_icmp .ge 8, 3) := by decide +kernel
theorem dX4_hold_64 : decode cX4_hold 64 = .ok (.iload_n 3, 1) := by decide +kernel
theorem dX4_hold_65 : decode cX4_hold 65 = .ok (.istore_n 1, 1) := by decide +kernel
theorem dX4_hold_66 : decode cX4_hold 66 = .ok (.iload 4, 2) := by decide +kernel
theorem dX4_hold_68 : decode cX4_hold 68 = .ok (.istore_n 2, 1) := by decide +kernel
theorem dX4_hold_69 : decode cX4_hold 69 = .ok (.iinc 3 1, 3) := by decide +kernel
theorem dX4_hold_72 : decode cX4_hold 72 = .ok (.goto (-46), 3) := by decide +kernel
theorem dX4_hold_75 : decode cX4_hold 75 = .ok (.iload_n 1, 1) := by decide +kernel
theorem dX4_hold_76 : decode cX4_hold 76 = .ok (.bipush (-9), 2) := by decide +kernel
theorem dX4_hold_78 : decode cX4_hold 78 = .ok (.if_icmp .eq 9, 3) := by decide +kernel
theorem dX4_hold_81 : decode cX4_hold 81 = .ok (.aload_n 0, 1) := by decide +kernel
theorem dX4_hold_82 : decode cX4_hold 82 = .ok (.iload_n 2, 1) := by decide +kernel
theorem dX4_hold_83 : decode cX4_hold 83 = .ok (.invokevirtual 89, 3) := by decide +kernel
theorem dX4_hold_86 : decode cX4_hold 86 = .ok (.pop, 1) := by decide +kernel
theorem dX4_hold_87 : decode cX4_hold 87 = .ok (.iload_n 1, 1) := by decide +kernel
theorem dX4_hold_88 : decode cX4_hold 88 = .ok (.ireturn, 1) := by decide +kernel
theorem dX4_last_0 : decode cX4_last 0 = .ok (.aload_n 0, 1) := by decide +kernel
theorem dX4_last_1 : decode cX4_last 1 = .ok (.iload_n 1, 1) := by decide +kernel
theorem dX4_last_2 : decode cX4_last 2 = .ok (.invokevirtual 156, 3) := by decide +kernel
theorem dX4_last_5 : decode cX4_last 5 = .ok (.ifCond .ne 5, 3) := by decide +kernel
theorem dX4_last_8 : decode cX4_last 8 = .ok (.iconst (-1), 1) := by decide +kernel
theorem dX4_last_9 : decode cX4_last 9 = .ok (.ireturn, 1) := by decide +kernel
theorem dX4_last_10 : decode cX4_last 10 = .ok (.aload_n 0, 1) := by decide +kernel
theorem dX4_last_11 : decode cX4_last 11 = .ok (.getfield 104, 3) := by decide +kernel
theorem dX4_last_14 : decode cX4_last 14 = .ok (.ifCond .ne 6, 3) := by decide +kernel
theorem dX4_last_17 : decode cX4_last 17 = .ok (.bipush (-4), 2) := by decide +kernel
theorem dX4_last_19 : decode cX4_last 19 = .ok (.ireturn, 1) := by decide +kernel
theorem dX4_last_20 : decode cX4_last 20 = .ok (.iconst 0, 1) := by decide +kernel
theorem dX4_last_21 : decode cX4_last 21 = .ok (.istore_n 2, 1) := by decide +kernel
theorem dX4_last_22 : decode cX4_last 22 = .ok (.iconst 0, 1) := by decide +kernel
theorem dX4_last_23 : decode cX4_last 23 = .ok (.istore_n 3, 1) := by decide +kernel
theorem dX4_last_24 : decode cX4_last 24 = .ok (.iload_n 3, 1) := by decide +kernel
theorem dX4_last_25 : decode cX4_last 25 = .ok (.aload_n 0, 1) := by decide +kernel
theorem dX4_last_26 : decode cX4_last 26 = .ok (.getfield 104, 3) := by decide +kernel
theorem dX4_last_29 : decode cX4_last 29 = .ok (.if_icmp .ge 87, 3) := by decide +kernel
theorem dX4_last_32 : decode cX4_last 32 = .ok (.iconst 0, 1) := by decide +kernel
theorem dX4_last_33 : decode cX4_last 33 = .ok (.istore 4, 2) := by decide +kernel
theorem dX4_last_35 : decode cX4_last 35 = .ok (.iconst 0, 1) := by decide +kernel
theorem dX4_last_36 : decode cX4_last 36 = .ok (.istore 5, 2) := by decide +kernel
theorem dX4_last_38 : decode cX4_last 38 = .ok (.iload 5, 2) := by decide +kernel
theorem dX4_last_40 : decode cX4_last 40 = .ok (.aload_n 0, 1) := by decide +kernel
theorem dX4_last_41 : decode cX4_last 41 = .ok (.getfield 104, 3) := by decide +kernel
theorem dX4_last_44 : decode cX4_last 44 = .ok (.if_icmp .ge 50, 3) := by decide +kernel
theorem dX4_last_47 : decode cX4_last 47 = .ok (.iload 4, 2) := by decide +kernel
theorem dX4_last_49 : decode cX4_last 49 = .ok (.iload 5, 2) := by decide +kernel
theorem dX4_last_51 : decode cX4_last 51 = .ok (.iload_n 3, 1) := by decide +kernel
theorem dX4_last_52 : decode cX4_last 52 = .ok (.if_icmp .eq 32, 3) := by decide +kernel
theorem dX4_last_55 : decode cX4_last 55 = .ok (.aload_n 0, 1) := by decide +kernel
theorem dX4_last_56 : decode cX4_last 56 = .ok (.iload 5, 2) := by decide +kernel
theorem dX4_last_58 : decode cX4_last 58 = .ok (.invokevirtual 131, 3) := by decide +kernel
theorem dX4_last_61 : decode cX4_last 61 = .ok (.ifCond .ne 23, 3) := by decide +kernel
theorem dX4_last_64 : decode cX4_last 64 = .ok (.aload_n 0, 1) := by decide +kernel
theorem dX4_last_65 : decode cX4_last 65 = .ok (.iload 5, 2) := by decide +kernel
theorem dX4_last_67 : decode cX4_last 67 = .ok (.invokevirtual 134, 3) := by decide +kernel
theorem dX4_last_70 : decode cX4_last 70 = .ok (.iload_n 3, 1) := by decide +kernel
theorem dX4_last_71 : decode cX4_last 71 = .ok (.invokestatic 123, 3) := by decide +kernel
theorem dX4_last_74 : decode cX4_last 74 = .ok (.ifCond .eq 10, 3) := by decide +kernel
theorem dX4_last_77 : decode cX4_last 77 = .ok (.iconst 1, 1) := by decide +kernel
theorem dX4_last_78 : decode cX4_last 78 = .ok (.iload 5, 2) := by decide +kernel
theorem dX4_last_80 : decode cX4_last 80 = .ok (.ishl, 1) := by decide +kernel
theorem dX4_last_81 : decode cX4_last 81 = .ok (.goto 4, 3) := by decide +kernel
theorem dX4_last_84 : decode cX4_last 84 = .ok (.iconst 0, 1) := by decide +kernel
theorem dX4_last_85 : decode cX4_last 85 = .ok (.ior, 1) := by decide +kernel
theorem dX4_last_86 : decode cX4_last 86 = .ok (.istore 4, 2) := by decide +kernel
theorem dX4_last_88 : decode cX4_last 88 = .ok (.iinc 5 1, 3) := by decide +kernel
theorem dX4_last_91 : decode cX4_last 91 = .ok (.goto (-53), 3) := by decide +kernel
theorem dX4_last_94 : decode cX4_last 94 = .ok (.iload_n 2, 1) := by decide +kernel
theorem dX4_last_95 : decode cX4_last 95 = .ok (.iload 4, 2) := by decide +kernel
theorem dX4_last_97 : decode cX4_last 97 = .ok (.iload_n 1, 1) := by decide +kernel
theorem dX4_last_98 : decode cX4_last 98 = .ok (.if_icmp .ne 9, 3) := by decide +kernel
theorem dX4_last_101 : decode cX4_last 101 = .ok (.iconst 1, 1) := by decide +kernel
theorem dX4_last_102 : decode cX4_last 102 = .ok (.iload_n 3, 1) := by decide +kernel
theorem dX4_last_103 : decode cX4_last 103 = .ok (.ishl, 1) := by decide +kernel
theorem dX4_last_104 : decode cX4_last 104 = .ok (.goto 4, 3) := by decide +kernel
theorem dX4_last_107 : decode cX4_last 107 = .ok (.iconst 0, 1) := by decide +kernel
theorem dX4_last_108 : decode cX4_last 108 = .ok (.ior, 1) := by decide +kernel
theorem dX4_last_109 : decode cX4_last 109 = .ok (.istore_n 2, 1) := by decide +kernel
theorem dX4_last_110 : decode cX4_last 110 = .ok (.iinc 3 1, 3) := by decide +kernel
theorem dX4_last_113 : decode cX4_last 113 = .ok (.goto (-89), 3) := by decide +kernel
theorem dX4_last_116 : decode cX4_last 116 = .ok (.iload_n 2, 1) := by decide +kernel
theorem dX4_last_117 : decode cX4_last 117 = .ok (.ireturn, 1) := by decide +kernel
theorem dX4_pairs_0 : decode cX4_pairs 0 = .ok (.aload_n 0, 1) := by decide +kernel
theorem dX4_pairs_1 : decode cX4_pairs 1 = .ok (.getfield 17, 3) := by decide +kernel
theorem dX4_pairs_4 : decode cX4_pairs 4 = .ok (.iload_n 1, 1) := by decide +kernel
theorem dX4_pairs_5 : decode cX4_pairs 5 = .ok (.iaload, 1) := by decide +kernel
theorem dX4_pairs_6 : decode cX4_pairs 6 = .ok (.ifCond .ge 9, 3) := by decide +kernel
theorem dX4_pairs_9 : decode cX4_pairs 9 = .ok (.aload_n 0, 1) := by decide +kernel
theorem dX4_pairs_10 : decode cX4_pairs 10 = .ok (.iconst 1, 1) := by decide +kernel
theorem dX4_pairs_11 : decode cX4_pairs 11 = .ok (.invokevirtual 85, 3) := by decide +kernel
theorem dX4_pairs_14 : decode cX4_pairs 14 = .ok (.ireturn, 1) := by decide +kernel
theorem dX4_pairs_15 : decode cX4_pairs 15 = .ok (.aload_n 0, 1) := by decide +kernel
theorem dX4_pairs_16 : decode cX4_pairs 16 = .ok (.getfield 17, 3) := by decide +kernel
theorem dX4_pairs_19 : decode cX4_pairs 19 = .ok (.iload_n 1, 1) := by decide +kernel
theorem dX4_pairs_20 : decode cX4_pairs 20 = .ok (.iaload, 1) := by decide +kernel
theorem dX4_pairs_21 : decode cX4_pairs 21 = .ok (.iconst 2, 1) := by decide +kernel
theorem dX4_pairs_22 : decode cX4_pairs 22 = .ok (.irem, 1) := by decide +kernel
theorem dX4_pairs_23 : decode cX4_pairs 23 = .ok (.iconst 1, 1) := by decide +kernel
theorem dX4_pairs_24 : decode cX4_pairs 24 = .ok (.if_icmp .ne 9, 3) := by decide +kernel
theorem dX4_pairs_27 : decode cX4_pairs 27 = .ok (.aload_n 0, 1) := by decide +kernel
theorem dX4_pairs_28 : decode cX4_pairs 28 = .ok (.iconst 5, 1) := by decide +kernel
theorem dX4_pairs_29 : decode cX4_pairs 29 = .ok (.invokevirtual 85, 3) := by decide +kernel
theorem dX4_pairs_32 : decode cX4_pairs 32 = .ok (.ireturn, 1) := by decide +kernel
theorem dX4_pairs_33 : decode cX4_pairs 33 = .ok (.iconst 1, 1) := by decide +kernel
theorem dX4_pairs_34 : decode cX4_pairs 34 = .ok (.istore_n 2, 1) := by decide +kernel
theorem dX4_pairs_35 : decode cX4_pairs 35 = .ok (.iconst 0, 1) := by decide +kernel
theorem dX4_pairs_36 : decode cX4_pairs 36 = .ok (.istore_n 3, 1) := by decide +kernel
theorem dX4_pairs_37 : decode cX4_pairs 37 = .ok (.iload_n 3, 1) := by decide +kernel
theorem dX4_pairs_38 : decode cX4_pairs 38 = .ok (.aload_n 0, 1) := by decide +kernel
theorem dX4_pairs_39 : decode cX4_pairs 39 = .ok (.getfield 17, 3) := by decide +kernel
theorem dX4_pairs_42 : decode cX4_pairs 42 = .ok (.iload_n 1, 1) := by decide +kernel
theorem dX4_pairs_43 : decode cX4_pairs 43 = .ok (.iaload, 1) := by decide +kernel
theorem dX4_pairs_44 : decode cX4_pairs 44 = .ok (.if_icmp .ge 37, 3) := by decide +kernel
theorem dX4_pairs_47 : decode cX4_pairs 47 = .ok (.iload_n 2, 1) := by decide +kernel
theorem dX4_pairs_48 : decode cX4_pairs 48 = .ok (.ifCond .eq 25, 3) := by decide +kernel
theorem dX4_pairs_51 : decode cX4_pairs 51 = .ok (.aload_n 0, 1) := by decide +kernel
theorem dX4_pairs_52 : decode cX4_pairs 52 = .ok (.aload_n 0, 1) := by decide +kernel
theorem dX4_pairs_53 : decode cX4_pairs 53 = .ok (.getfield 20, 3) := by decide +kernel
theorem dX4_pairs_56 : decode cX4_pairs 56 = .ok (.bipush 40, 2) := by decide +kernel
theorem dX4_pairs_58 : decode cX4_pairs 58 = .ok (.iload_n 1, 1) := by decide +kernel
theorem dX4_pairs_59 : decode cX4_pairs 59 = .ok (.imul, 1) := by decide +kernel
theorem dX4_pairs_60 : decode cX4_pairs 60 = .ok (.iload_n 3, 1) := by decide +kernel
theorem dX4_pairs_61 : decode cX4_pairs 61 = .ok (.iadd, 1) := by decide +kernel
theorem dX4_pairs_62 : decode cX4_pairs 62 = .ok (.iaload, 1) := by decide +kernel
theorem dX4_pairs_63 : decode cX4_pairs 63 = .ok (.invokevirtual 156, 3) := by decide +kernel
theorem dX4_pairs_66 : decode cX4_pairs 66 = .ok (.ifCond .eq 7, 3) := by decide +kernel
theorem dX4_pairs_69 : decode cX4_pairs 69 = .ok (.iconst 1, 1) := by decide +kernel
theorem dX4_pairs_70 : decode cX4_pairs 70 = .ok (.goto 4, 3) := by decide +kernel
theorem dX4_pairs_73 : decode cX4_pairs 73 = .ok (.iconst 0, 1) := by decide +kernel
theorem dX4_pairs_74 : decode cX4_pairs 74 = .ok (.istore_n 2, 1) := by decide +kernel
theorem dX4_pairs_75 : decode cX4_pairs 75 = .ok (.iinc 3 1, 3) := by decide +kernel
theorem dX4_pairs_78 : decode cX4_pairs 78 = .ok (.goto (-41), 3) := by decide +kernel
theorem dX4_pairs_81 : decode cX4_pairs 81 = .ok (.iload_n 2, 1) := by decide +kernel
theorem dX4_pairs_82 : decode cX4_pairs 82 = .ok (.ifCond .eq 7, 3) := by decide +kernel
theorem dX4_pairs_85 : decode cX4_pairs 85 = .ok (.iconst 0, 1) := by decide +kernel
theorem dX4_pairs_86 : decode cX4_pairs 86 = .ok (.goto 8, 3) := by decide +kernel
theorem dX4_pairs_89 : decode cX4_pairs 89 = .ok (.aload_n 0, 1) := by decide +kernel
theorem dX4_pairs_90 : decode cX4_pairs 90 = .ok (.iconst 3, 1) := by decide +kernel
theorem dX4_pairs_91 : decode cX4_pairs 91 = .ok (.invokevirtual 85, 3) := by decide +kernel
theorem dX4_pairs_94 : decode cX4_pairs 94 = .ok (.ireturn, 1) := by decide +kernel
theorem dX4_kindsBy_0 : decode cX4_kindsBy 0 = .ok (.iconst 0, 1) := by decide +kernel
theorem dX4_kindsBy_1 : decode cX4_kindsBy 1 = .ok (.istore_n 3, 1) := by decide +kernel
theorem dX4_kindsBy_2 : decode cX4_kindsBy 2 = .ok (.iconst 0, 1) := by decide +kernel
theorem dX4_kindsBy_3 : decode cX4_kindsBy 3 = .ok (.istore 4, 2) := by decide +kernel
theorem dX4_kindsBy_5 : decode cX4_kindsBy 5 = .ok (.iload 4, 2) := by decide +kernel
theorem dX4_kindsBy_7 : decode cX4_kindsBy 7 = .ok (.iconst 5, 1) := by decide +kernel
theorem dX4_kindsBy_8 : decode cX4_kindsBy 8 = .ok (.if_icmp .gt 95, 3) := by decide +kernel
theorem dX4_kindsBy_11 : decode cX4_kindsBy 11 = .ok (.iconst 1, 1) := by decide +kernel
theorem dX4_kindsBy_12 : decode cX4_kindsBy 12 = .ok (.istore 5, 2) := by decide +kernel
theorem dX4_kindsBy_14 : decode cX4_kindsBy 14 = .ok (.iconst 0, 1) := by decide +kernel
theorem dX4_kindsBy_15 : decode cX4_kindsBy 15 = .ok (.istore 6, 2) := by decide +kernel
theorem dX4_kindsBy_17 : decode cX4_kindsBy 17 = .ok (.iload 6, 2) := by decide +kernel
theorem dX4_kindsBy_19 : decode cX4_kindsBy 19 = .ok (.aload_n 0, 1) := by decide +kernel
theorem dX4_kindsBy_20 : decode cX4_kindsBy 20 = .ok (.getfield 17, 3) := by decide +kernel
theorem dX4_kindsBy_23 : decode cX4_kindsBy 23 = .ok (.iload_n 2, 1) := by decide +kernel
theorem dX4_kindsBy_24 : decode cX4_kindsBy 24 = .ok (.iaload, 1) := by decide +kernel
theorem dX4_kindsBy_25 : decode cX4_kindsBy 25 = .ok (.if_icmp .ge 56, 3) := by decide +kernel
theorem dX4_kindsBy_28 : decode cX4_kindsBy 28 = .ok (.iload 5, 2) := by decide +kernel
theorem dX4_kindsBy_30 : decode cX4_kindsBy 30 = .ok (.ifCond .eq 42, 3) := by decide +kernel
theorem dX4_kindsBy_33 : decode cX4_kindsBy 33 = .ok (.iload_n 1, 1) := by decide +kernel
theorem dX4_kindsBy_34 : decode cX4_kindsBy 34 = .ok (.iload 4, 2) := by decide +kernel
theorem dX4_kindsBy_36 : decode cX4_kindsBy 36 = .ok (.aload_n 0, 1) := by decide +kernel
theorem dX4_kindsBy_37 : decode cX4_kindsBy 37 = .ok (.getfield 20, 3) := by decide +kernel
theorem dX4_kindsBy_40 : decode cX4_kindsBy 40 = .ok (.bipush 40, 2) := by decide +kernel
theorem dX4_kindsBy_42 : decode cX4_kindsBy 42 = .ok (.iload_n 2, 1) := by decide +kernel
theorem dX4_kindsBy_43 : decode cX4_kindsBy 43 = .ok (.imul, 1) := by decide +kernel
theorem dX4_kindsBy_44 : decode cX4_kindsBy 44 = .ok (.iload 6, 2) := by decide +kernel
theorem dX4_kindsBy_46 : decode cX4_kindsBy 46 = .ok (.iadd, 1) := by decide +kernel
theorem dX4_kindsBy_47 : decode cX4_kindsBy 47 = .ok (.iaload, 1) := by decide +kernel
theorem dX4_kindsBy_48 : decode cX4_kindsBy 48 = .ok (.invokestatic 116, 3) := by decide +kernel
theorem dX4_kindsBy_51 : decode cX4_kindsBy 51 = .ok (.aload_n 0, 1) := by decide +kernel
theorem dX4_kindsBy_52 : decode cX4_kindsBy 52 = .ok (.getfield 20, 3) := by decide +kernel
theorem dX4_kindsBy_55 : decode cX4_kindsBy 55 = .ok (.bipush 40, 2) := by decide +kernel
theorem dX4_kindsBy_57 : decode cX4_kindsBy 57 = .ok (.iload_n 2, 1) := by decide +kernel
theorem dX4_kindsBy_58 : decode cX4_kindsBy 58 = .ok (.imul, 1) := by decide +kernel
theorem dX4_kindsBy_59 : decode cX4_kindsBy 59 = .ok (.iload 6, 2) := by decide +kernel
theorem dX4_kindsBy_61 : decode cX4_kindsBy 61 = .ok (.iadd, 1) := by decide +kernel
theorem dX4_kindsBy_62 : decode cX4_kindsBy 62 = .ok (.iconst 1, 1) := by decide +kernel
theorem dX4_kindsBy_63 : decode cX4_kindsBy 63 = .ok (.iadd, 1) := by decide +kernel
theorem dX4_kindsBy_64 : decode cX4_kindsBy 64 = .ok (.iaload, 1) := by decide +kernel
theorem dX4_kindsBy_65 : decode cX4_kindsBy 65 = .ok (.if_icmp .ne 7, 3) := by decide +kernel
theorem dX4_kindsBy_68 : decode cX4_kindsBy 68 = .ok (.iconst 1, 1) := by decide +kernel
theorem dX4_kindsBy_69 : decode cX4_kindsBy 69 = .ok (.goto 4, 3) := by decide +kernel
theorem dX4_kindsBy_72 : decode cX4_kindsBy 72 = .ok (.iconst 0, 1) := by decide +kernel
theorem dX4_kindsBy_73 : decode cX4_kindsBy 73 = .ok (.istore 5, 2) := by decide +kernel
theorem dX4_kindsBy_75 : decode cX4_kindsBy 75 = .ok (.iinc 6 2, 3) := by decide +kernel
theorem dX4_kindsBy_78 : decode cX4_kindsBy 78 = .ok (.goto (-61), 3) := by decide +kernel
theorem dX4_kindsBy_81 : decode cX4_kindsBy 81 = .ok (.iload_n 3, 1) := by decide +kernel
theorem dX4_kindsBy_82 : decode cX4_kindsBy 82 = .ok (.iload 5, 2) := by decide +kernel
theorem dX4_kindsBy_84 : decode cX4_kindsBy 84 = .ok (.ifCond .eq 10, 3) := by decide +kernel
theorem dX4_kindsBy_87 : decode cX4_kindsBy 87 = .ok (.iconst 1, 1) := by decide +kernel
theorem dX4_kindsBy_88 : decode cX4_kindsBy 88 = .ok (.iload 4, 2) := by decide +kernel
theorem dX4_kindsBy_90 : decode cX4_kindsBy 90 = .ok (.ishl, 1) := by decide +kernel
theorem dX4_kindsBy_91 : decode cX4_kindsBy 91 = .ok (.goto 4, 3) := by decide +kernel
theorem dX4_kindsBy_94 : decode cX4_kindsBy 94 = .ok (.iconst 0, 1) := by decide +kernel
theorem dX4_kindsBy_95 : decode cX4_kindsBy 95 = .ok (.ior, 1) := by decide +kernel
theorem dX4_kindsBy_96 : decode cX4_kindsBy 96 = .ok (.istore_n 3, 1) := by decide +kernel
theorem dX4_kindsBy_97 : decode cX4_kindsBy 97 = .ok (.iinc 4 1, 3) := by decide +kernel
theorem dX4_kindsBy_100 : decode cX4_kindsBy 100 = .ok (.goto (-95), 3) := by decide +kernel
theorem dX4_kindsBy_103 : decode cX4_kindsBy 103 = .ok (.iload_n 3, 1) := by decide +kernel
theorem dX4_kindsBy_104 : decode cX4_kindsBy 104 = .ok (.ireturn, 1) := by decide +kernel
theorem dX4_kinds_0 : decode cX4_kinds 0 = .ok (.aload_n 0, 1) := by decide +kernel
theorem dX4_kinds_1 : decode cX4_kinds 1 = .ok (.iload_n 1, 1) := by decide +kernel
theorem dX4_kinds_2 : decode cX4_kinds 2 = .ok (.invokevirtual 143, 3) := by decide +kernel
theorem dX4_kinds_5 : decode cX4_kinds 5 = .ok (.ifCond .eq 10, 3) := by decide +kernel
theorem dX4_kinds_8 : decode cX4_kinds 8 = .ok (.iload_n 2, 1) := by decide +kernel
theorem dX4_kinds_9 : decode cX4_kinds 9 = .ok (.invokestatic 81, 3) := by decide +kernel
theorem dX4_kinds_12 : decode cX4_kinds 12 = .ok (.ifCond .ne 5, 3) := by decide +kernel
theorem dX4_kinds_15 : decode cX4_kinds 15 = .ok (.iconst (-1), 1) := by decide +kernel
theorem dX4_kinds_16 : decode cX4_kinds 16 = .ok (.ireturn, 1) := by decide +kernel
theorem dX4_kinds_17 : decode cX4_kinds 17 = .ok (.aload_n 0, 1) := by decide +kernel
theorem dX4_kinds_18 : decode cX4_kinds 18 = .ok (.iload_n 2, 1) := by decide +kernel
theorem dX4_kinds_19 : decode cX4_kinds 19 = .ok (.invokevirtual 213, 3) := by decide +kernel
theorem dX4_kinds_22 : decode cX4_kinds 22 = .ok (.istore_n 3, 1) := by decide +kernel
theorem dX4_kinds_23 : decode cX4_kinds 23 = .ok (.iload_n 3, 1) := by decide +kernel
theorem dX4_kinds_24 : decode cX4_kinds 24 = .ok (.ifCond .eq 7, 3) := by decide +kernel
theorem dX4_kinds_27 : decode cX4_kinds 27 = .ok (.iload_n 3, 1) := by decide +kernel
theorem dX4_kinds_28 : decode cX4_kinds 28 = .ok (.goto 9, 3) := by decide +kernel
theorem dX4_kinds_31 : decode cX4_kinds 31 = .ok (.aload_n 0, 1) := by decide +kernel
theorem dX4_kinds_32 : decode cX4_kinds 32 = .ok (.iload_n 1, 1) := by decide +kernel
theorem dX4_kinds_33 : decode cX4_kinds 33 = .ok (.iload_n 2, 1) := by decide +kernel
theorem dX4_kinds_34 : decode cX4_kinds 34 = .ok (.invokevirtual 216, 3) := by decide +kernel
theorem dX4_kinds_37 : decode cX4_kinds 37 = .ok (.ireturn, 1) := by decide +kernel
theorem dX4_test_0 : decode cX4_test 0 = .ok (.aload_n 0, 1) := by decide +kernel
theorem dX4_test_1 : decode cX4_test 1 = .ok (.iload_n 1, 1) := by decide +kernel
theorem dX4_test_2 : decode cX4_test 2 = .ok (.invokevirtual 143, 3) := by decide +kernel
theorem dX4_test_5 : decode cX4_test 5 = .ok (.ifCond .eq 10, 3) := by decide +kernel
theorem dX4_test_8 : decode cX4_test 8 = .ok (.iload_n 2, 1) := by decide +kernel
theorem dX4_test_9 : decode cX4_test 9 = .ok (.invokestatic 81, 3) := by decide +kernel
theorem dX4_test_12 : decode cX4_test 12 = .ok (.ifCond .ne 5, 3) := by decide +kernel
theorem dX4_test_15 : decode cX4_test 15 = .ok (.iconst (-1), 1) := by decide +kernel
theorem dX4_test_16 : decode cX4_test 16 = .ok (.ireturn, 1) := by decide +kernel
theorem dX4_test_17 : decode cX4_test 17 = .ok (.aload_n 0, 1) := by decide +kernel
theorem dX4_test_18 : decode cX4_test 18 = .ok (.iload_n 2, 1) := by decide +kernel
theorem dX4_test_19 : decode cX4_test 19 = .ok (.invokevirtual 213, 3) := by decide +kernel
theorem dX4_test_22 : decode cX4_test 22 = .ok (.istore_n 3, 1) := by decide +kernel
theorem dX4_test_23 : decode cX4_test 23 = .ok (.iload_n 3, 1) := by decide +kernel
theorem dX4_test_24 : decode cX4_test 24 = .ok (.ifCond .eq 5, 3) := by decide +kernel
theorem dX4_test_27 : decode cX4_test 27 = .ok (.iload_n 3, 1) := by decide +kernel
theorem dX4_test_28 : decode cX4_test 28 = .ok (.ireturn, 1) := by decide +kernel
theorem dX4_test_29 : decode cX4_test 29 = .ok (.aload_n 0, 1) := by decide +kernel
theorem dX4_test_30 : decode cX4_test 30 = .ok (.iload_n 1, 1) := by decide +kernel
theorem dX4_test_31 : decode cX4_test 31 = .ok (.iload_n 2, 1) := by decide +kernel
theorem dX4_test_32 : decode cX4_test 32 = .ok (.invokevirtual 216, 3) := by decide +kernel
theorem dX4_test_35 : decode cX4_test 35 = .ok (.istore 4, 2) := by decide +kernel
theorem dX4_test_37 : decode cX4_test 37 = .ok (.bipush (-9), 2) := by decide +kernel
theorem dX4_test_39 : decode cX4_test 39 = .ok (.istore 5, 2) := by decide +kernel
theorem dX4_test_41 : decode cX4_test 41 = .ok (.bipush 7, 2) := by decide +kernel
theorem dX4_test_43 : decode cX4_test 43 = .ok (.istore 6, 2) := by decide +kernel
theorem dX4_test_45 : decode cX4_test 45 = .ok (.iconst 0, 1) := by decide +kernel
theorem dX4_test_46 : decode cX4_test 46 = .ok (.istore 7, 2) := by decide +kernel
theorem dX4_test_48 : decode cX4_test 48 = .ok (.iload 7, 2) := by decide +kernel
theorem dX4_test_50 : decode cX4_test 50 = .ok (.iconst 1, 1) := by decide +kernel
theorem dX4_test_51 : decode cX4_test 51 = .ok (.aload_n 0, 1) := by decide +kernel
theorem dX4_test_52 : decode cX4_test 52 = .ok (.getfield 104, 3) := by decide +kernel
theorem dX4_test_55 : decode cX4_test 55 = .ok (.ishl, 1) := by decide +kernel
theorem dX4_test_56 : decode cX4_test 56 = .ok (.if_icmp .ge 147, 3) := by decide +kernel
theorem dX4_test_59 : decode cX4_test 59 = .ok (.iload 4, 2) := by decide +kernel
theorem dX4_test_61 : decode cX4_test 61 = .ok (.ifCond .eq 142, 3) := by decide +kernel
theorem dX4_test_64 : decode cX4_test 64 = .ok (.iconst 0, 1) := by decide +kernel
theorem dX4_test_65 : decode cX4_test 65 = .ok (.istore 8, 2) := by decide +kernel
theorem dX4_test_67 : decode cX4_test 67 = .ok (.iconst 0, 1) := by decide +kernel
theorem dX4_test_68 : decode cX4_test 68 = .ok (.istore 9, 2) := by decide +kernel
theorem dX4_test_70 : decode cX4_test 70 = .ok (.iload 9, 2) := by decide +kernel
theorem dX4_test_72 : decode cX4_test 72 = .ok (.iconst 5, 1) := by decide +kernel
theorem dX4_test_73 : decode cX4_test 73 = .ok (.if_icmp .gt 92, 3) := by decide +kernel
theorem dX4_test_76 : decode cX4_test 76 = .ok (.iconst 0, 1) := by decide +kernel
theorem dX4_test_77 : decode cX4_test 77 = .ok (.istore 10, 2) := by decide +kernel
theorem dX4_test_79 : decode cX4_test 79 = .ok (.iconst 0, 1) := by decide +kernel
theorem dX4_test_80 : decode cX4_test 80 = .ok (.istore 11, 2) := by decide +kernel
theorem dX4_test_82 : decode cX4_test 82 = .ok (.iload 11, 2) := by decide +kernel
theorem dX4_test_84 : decode cX4_test 84 = .ok (.iconst 5, 1) := by decide +kernel
theorem dX4_test_85 : decode cX4_test 85 = .ok (.if_icmp .gt 58, 3) := by decide +kernel
theorem dX4_test_88 : decode cX4_test 88 = .ok (.iload 10, 2) := by decide +kernel
theorem dX4_test_90 : decode cX4_test 90 = .ok (.iload 4, 2) := by decide +kernel
theorem dX4_test_92 : decode cX4_test 92 = .ok (.iload 9, 2) := by decide +kernel
theorem dX4_test_94 : decode cX4_test 94 = .ok (.invokestatic 123, 3) := by decide +kernel
theorem dX4_test_97 : decode cX4_test 97 = .ok (.ifCond .eq 36, 3) := by decide +kernel
theorem dX4_test_100 : decode cX4_test 100 = .ok (.iload 4, 2) := by decide +kernel
theorem dX4_test_102 : decode cX4_test 102 = .ok (.iload 11, 2) := by decide +kernel
theorem dX4_test_104 : decode cX4_test 104 = .ok (.invokestatic 123, 3) := by decide +kernel
theorem dX4_test_107 : decode cX4_test 107 = .ok (.ifCond .eq 26, 3) := by decide +kernel
theorem dX4_test_110 : decode cX4_test 110 = .ok (.iload_n 1, 1) := by decide +kernel
theorem dX4_test_111 : decode cX4_test 111 = .ok (.iload 9, 2) := by decide +kernel
theorem dX4_test_113 : decode cX4_test 113 = .ok (.iload 7, 2) := by decide +kernel
theorem dX4_test_115 : decode cX4_test 115 = .ok (.invokestatic 116, 3) := by decide +kernel
theorem dX4_test_118 : decode cX4_test 118 = .ok (.iload_n 1, 1) := by decide +kernel
theorem dX4_test_119 : decode cX4_test 119 = .ok (.iload 11, 2) := by decide +kernel
theorem dX4_test_121 : decode cX4_test 121 = .ok (.iload 7, 2) := by decide +kernel
theorem dX4_test_123 : decode cX4_test 123 = .ok (.invokestatic 116, 3) := by decide +kernel
theorem dX4_test_126 : decode cX4_test 126 = .ok (.if_icmp .ne 7, 3) := by decide +kernel
theorem dX4_test_129 : decode cX4_test 129 = .ok (.iconst 1, 1) := by decide +kernel
theorem dX4_test_130 : decode cX4_test 130 = .ok (.goto 4, 3) := by decide +kernel
theorem dX4_test_133 : decode cX4_test 133 = .ok (.iconst 0, 1) := by decide +kernel
theorem dX4_test_134 : decode cX4_test 134 = .ok (.iadd, 1) := by decide +kernel
theorem dX4_test_135 : decode cX4_test 135 = .ok (.istore 10, 2) := by decide +kernel
theorem dX4_test_137 : decode cX4_test 137 = .ok (.iinc 11 1, 3) := by decide +kernel
theorem dX4_test_140 : decode cX4_test 140 = .ok (.goto (-58), 3) := by decide +kernel
theorem dX4_test_143 : decode cX4_test 143 = .ok (.iload 10, 2) := by decide +kernel
theorem dX4_test_145 : decode cX4_test 145 = .ok (.iload 8, 2) := by decide +kernel
theorem dX4_test_147 : decode cX4_test 147 = .ok (.if_icmp .le 8, 3) := by decide +kernel
theorem dX4_test_150 : decode cX4_test 150 = .ok (.iload 10, 2) := by decide +kernel
theorem dX4_test_152 : decode cX4_test 152 = .ok (.goto 5, 3) := by decide +kernel
theorem dX4_test_155 : decode cX4_test 155 = .ok (.iload 8, 2) := by decide +kernel
theorem dX4_test_157 : decode cX4_test 157 = .ok (.istore 8, 2) := by decide +kernel
theorem dX4_test_159 : decode cX4_test 159 = .ok (.iinc 9 1, 3) := by decide +kernel
theorem dX4_test_162 : decode cX4_test 162 = .ok (.goto (-92), 3) := by decide +kernel
theorem dX4_test_165 : decode cX4_test 165 = .ok (.iload 8, 2) := by decide +kernel
theorem dX4_test_167 : decode cX4_test 167 = .ok (.iload 6, 2) := by decide +kernel
theorem dX4_test_169 : decode cX4_test 169 = .ok (.if_icmp .ge 8, 3) := by decide +kernel
theorem dX4_test_172 : decode cX4_test 172 = .ok (.iload 7, 2) := by decide +kernel
theorem dX4_test_174 : decode cX4_test 174 = .ok (.goto 5, 3) := by decide +kernel
theorem dX4_test_177 : decode cX4_test 177 = .ok (.iload 5, 2) := by decide +kernel
theorem dX4_test_179 : decode cX4_test 179 = .ok (.istore 5, 2) := by decide +kernel
theorem dX4_test_181 : decode cX4_test 181 = .ok (.iload 8, 2) := by decide +kernel
theorem dX4_test_183 : decode cX4_test 183 = .ok (.iload 6, 2) := by decide +kernel
theorem dX4_test_185 : decode cX4_test 185 = .ok (.if_icmp .ge 8, 3) := by decide +kernel
theorem dX4_test_188 : decode cX4_test 188 = .ok (.iload 8, 2) := by decide +kernel
theorem dX4_test_190 : decode cX4_test 190 = .ok (.goto 5, 3) := by decide +kernel
theorem dX4_test_193 : decode cX4_test 193 = .ok (.iload 6, 2) := by decide +kernel
theorem dX4_test_195 : decode cX4_test 195 = .ok (.istore 6, 2) := by decide +kernel
theorem dX4_test_197 : decode cX4_test 197 = .ok (.iinc 7 1, 3) := by decide +kernel
theorem dX4_test_200 : decode cX4_test 200 = .ok (.goto (-152), 3) := by decide +kernel
theorem dX4_test_203 : decode cX4_test 203 = .ok (.iload 5, 2) := by decide +kernel
theorem dX4_test_205 : decode cX4_test 205 = .ok (.bipush (-9), 2) := by decide +kernel
theorem dX4_test_207 : decode cX4_test 207 = .ok (.if_icmp .eq 10, 3) := by decide +kernel
theorem dX4_test_210 : decode cX4_test 210 = .ok (.aload_n 0, 1) := by decide +kernel
theorem dX4_test_211 : decode cX4_test 211 = .ok (.iload 6, 2) := by decide +kernel
theorem dX4_test_213 : decode cX4_test 213 = .ok (.invokevirtual 89, 3) := by decide +kernel
theorem dX4_test_216 : decode cX4_test 216 = .ok (.pop, 1) := by decide +kernel
theorem dX4_test_217 : decode cX4_test 217 = .ok (.iload 5, 2) := by decide +kernel
theorem dX4_test_219 : decode cX4_test 219 = .ok (.ireturn, 1) := by decide +kernel
theorem dX4_duel_0 : decode cX4_duel 0 = .ok (.aload_n 0, 1) := by decide +kernel
theorem dX4_duel_1 : decode cX4_duel 1 = .ok (.getfield 104, 3) := by decide +kernel
theorem dX4_duel_4 : decode cX4_duel 4 = .ok (.ifCond .ne 6, 3) := by decide +kernel
theorem dX4_duel_7 : decode cX4_duel 7 = .ok (.bipush (-4), 2) := by decide +kernel
theorem dX4_duel_9 : decode cX4_duel 9 = .ok (.ireturn, 1) := by decide +kernel
theorem dX4_duel_10 : decode cX4_duel 10 = .ok (.aload_n 0, 1) := by decide +kernel
theorem dX4_duel_11 : decode cX4_duel 11 = .ok (.invokevirtual 181, 3) := by decide +kernel
theorem dX4_duel_14 : decode cX4_duel 14 = .ok (.aload_n 0, 1) := by decide +kernel
theorem dX4_duel_15 : decode cX4_duel 15 = .ok (.invokevirtual 149, 3) := by decide +kernel
theorem dX4_duel_18 : decode cX4_duel 18 = .ok (.istore_n 1, 1) := by decide +kernel
theorem dX4_duel_19 : decode cX4_duel 19 = .ok (.bipush (-9), 2) := by decide +kernel
theorem dX4_duel_21 : decode cX4_duel 21 = .ok (.istore_n 2, 1) := by decide +kernel
theorem dX4_duel_22 : decode cX4_duel 22 = .ok (.iconst 1, 1) := by decide +kernel
theorem dX4_duel_23 : decode cX4_duel 23 = .ok (.aload_n 0, 1) := by decide +kernel
theorem dX4_duel_24 : decode cX4_duel 24 = .ok (.getfield 104, 3) := by decide +kernel
theorem dX4_duel_27 : decode cX4_duel 27 = .ok (.ishl, 1) := by decide +kernel
theorem dX4_duel_28 : decode cX4_duel 28 = .ok (.iconst 1, 1) := by decide +kernel
theorem dX4_duel_29 : decode cX4_duel 29 = .ok (.isub, 1) := by decide +kernel
theorem dX4_duel_30 : decode cX4_duel 30 = .ok (.istore_n 3, 1) := by decide +kernel
theorem dX4_duel_31 : decode cX4_duel 31 = .ok (.iload_n 3, 1) := by decide +kernel
theorem dX4_duel_32 : decode cX4_duel 32 = .ok (.ifCond .lt 145, 3) := by decide +kernel
theorem dX4_duel_35 : decode cX4_duel 35 = .ok (.iconst 0, 1) := by decide +kernel
theorem dX4_duel_36 : decode cX4_duel 36 = .ok (.istore 4, 2) := by decide +kernel
theorem dX4_duel_38 : decode cX4_duel 38 = .ok (.iload 4, 2) := by decide +kernel
theorem dX4_duel_40 : decode cX4_duel 40 = .ok (.bipush 7, 2) := by decide +kernel
theorem dX4_duel_42 : decode cX4_duel 42 = .ok (.if_icmp .gt 129, 3) := by decide +kernel
theorem dX4_duel_45 : decode cX4_duel 45 = .ok (.bipush (-9), 2) := by decide +kernel
theorem dX4_duel_47 : decode cX4_duel 47 = .ok (.istore 5, 2) := by decide +kernel
theorem dX4_duel_49 : decode cX4_duel 49 = .ok (.aload_n 0, 1) := by decide +kernel
theorem dX4_duel_50 : decode cX4_duel 50 = .ok (.getfield 104, 3) := by decide +kernel
theorem dX4_duel_53 : decode cX4_duel 53 = .ok (.iconst 1, 1) := by decide +kernel
theorem dX4_duel_54 : decode cX4_duel 54 = .ok (.isub, 1) := by decide +kernel
theorem dX4_duel_55 : decode cX4_duel 55 = .ok (.istore 6, 2) := by decide +kernel
theorem dX4_duel_57 : decode cX4_duel 57 = .ok (.iload 6, 2) := by decide +kernel
theorem dX4_duel_59 : decode cX4_duel 59 = .ok (.ifCond .lt 79, 3) := by decide +kernel
theorem dX4_duel_62 : decode cX4_duel 62 = .ok (.iload_n 1, 1) := by decide +kernel
theorem dX4_duel_63 : decode cX4_duel 63 = .ok (.iload 6, 2) := by decide +kernel
theorem dX4_duel_65 : decode cX4_duel 65 = .ok (.invokestatic 123, 3) := by decide +kernel
theorem dX4_duel_68 : decode cX4_duel 68 = .ok (.ifCond .eq 27, 3) := by decide +kernel
theorem dX4_duel_71 : decode cX4_duel 71 = .ok (.iload_n 3, 1) := by decide +kernel
theorem dX4_duel_72 : decode cX4_duel 72 = .ok (.iload 6, 2) := by decide +kernel
theorem dX4_duel_74 : decode cX4_duel 74 = .ok (.invokestatic 123, 3) := by decide +kernel
theorem dX4_duel_77 : decode cX4_duel 77 = .ok (.ifCond .ne 18, 3) := by decide +kernel
theorem dX4_duel_80 : decode cX4_duel 80 = .ok (.aload_n 0, 1) := by decide +kernel
theorem dX4_duel_81 : decode cX4_duel 81 = .ok (.iload 4, 2) := by decide +kernel
theorem dX4_duel_83 : decode cX4_duel 83 = .ok (.iload 6, 2) := by decide +kernel
theorem dX4_duel_85 : decode cX4_duel 85 = .ok (.invokevirtual 172, 3) := by decide +kernel
theorem dX4_duel_88 : decode cX4_duel 88 = .ok (.ifCond .eq 7, 3) := by decide +kernel
theorem dX4_duel_91 : decode cX4_duel 91 = .ok (.iconst 1, 1) := by decide +kernel
theorem dX4_duel_92 : decode cX4_duel 92 = .ok (.goto 4, 3) := by decide +kernel
theorem dX4_duel_95 : decode cX4_duel 95 = .ok (.iconst 0, 1) := by decide +kernel
theorem dX4_duel_96 : decode cX4_duel 96 = .ok (.istore 7, 2) := by decide +kernel
theorem dX4_duel_98 : decode cX4_duel 98 = .ok (.iload 7, 2) := by decide +kernel
theorem dX4_duel_100 : decode cX4_duel 100 = .ok (.ifCond .eq 28, 3) := by decide +kernel
theorem dX4_duel_103 : decode cX4_duel 103 = .ok (.aload_n 0, 1) := by decide +kernel
theorem dX4_duel_104 : decode cX4_duel 104 = .ok (.getfield 63, 3) := by decide +kernel
theorem dX4_duel_107 : decode cX4_duel 107 = .ok (.bipush 8, 2) := by decide +kernel
theorem dX4_duel_109 : decode cX4_duel 109 = .ok (.iload_n 3, 1) := by decide +kernel
theorem dX4_duel_110 : decode cX4_duel 110 = .ok (.iconst 1, 1) := by decide +kernel
theorem dX4_duel_111 : decode cX4_duel 111 = .ok (.iload 6, 2) := by decide +kernel
theorem dX4_duel_113 : decode cX4_duel 113 = .ok (.ishl, 1) := by decide +kernel
theorem dX4_duel_114 : decode cX4_duel 114 = .ok (.ior, 1) := by decide +kernel
theorem dX4_duel_115 : decode cX4_duel 115 = .ok (.imul, 1) := by decide +kernel
theorem dX4_duel_116 : decode cX4_duel 116 = .ok (.iload 6, 2) := by decide +kernel
theorem dX4_duel_118 : decode cX4_duel 118 = .ok (.iadd, 1) := by decide +kernel
theorem dX4_duel_119 : decode cX4_duel 119 = .ok (.baload, 1) := by decide +kernel
theorem dX4_duel_120 : decode cX4_duel 120 = .ok (.ifCond .ne 8, 3) := by decide +kernel
theorem dX4_duel_123 : decode cX4_duel 123 = .ok (.iload 6, 2) := by decide +kernel
theorem dX4_duel_125 : decode cX4_duel 125 = .ok (.goto 5, 3) := by decide +kernel
theorem dX4_duel_128 : decode cX4_duel 128 = .ok (.iload 5, 2) := by decide +kernel
theorem dX4_duel_130 : decode cX4_duel 130 = .ok (.istore 5, 2) := by decide +kernel
theorem dX4_duel_132 : decode cX4_duel 132 = .ok (.iinc 6 (-1), 3) := by decide +kernel
theorem dX4_duel_135 : decode cX4_duel 135 = .ok (.goto (-78), 3) := by decide +kernel
theorem dX4_duel_138 : decode cX4_duel 138 = .ok (.aload_n 0, 1) := by decide +kernel
theorem dX4_duel_139 : decode cX4_duel 139 = .ok (.getfield 63, 3) := by decide +kernel
theorem dX4_duel_142 : decode cX4_duel 142 = .ok (.bipush 8, 2) := by decide +kernel
theorem dX4_duel_144 : decode cX4_duel 144 = .ok (.iload_n 3, 1) := by decide +kernel
theorem dX4_duel_145 : decode cX4_duel 145 = .ok (.imul, 1) := by decide +kernel
theorem dX4_duel_146 : decode cX4_duel 146 = .ok (.iload 4, 2) := by decide +kernel
theorem dX4_duel_148 : decode cX4_duel 148 = .ok (.iadd, 1) := by decide +kernel
theorem dX4_duel_149 : decode cX4_duel 149 = .ok (.iload 5, 2) := by decide +kernel
theorem dX4_duel_151 : decode cX4_duel 151 = .ok (.bipush (-9), 2) := by decide +kernel
theorem dX4_duel_153 : decode cX4_duel 153 = .ok (.if_icmp .eq 7, 3) := by decide +kernel
theorem dX4_duel_156 : decode cX4_duel 156 = .ok (.iconst 1, 1) := by decide +kernel
theorem dX4_duel_157 : decode cX4_duel 157 = .ok (.goto 4, 3) := by decide +kernel
theorem dX4_duel_160 : decode cX4_duel 160 = .ok (.iconst 0, 1) := by decide +kernel
theorem dX4_duel_161 : decode cX4_duel 161 = .ok (.bastore, 1) := by decide +kernel
theorem dX4_duel_162 : decode cX4_duel 162 = .ok (.iload 5, 2) := by decide +kernel
theorem dX4_duel_164 : decode cX4_duel 164 = .ok (.istore_n 2, 1) := by decide +kernel
theorem dX4_duel_165 : decode cX4_duel 165 = .ok (.iinc 4 1, 3) := by decide +kernel
theorem dX4_duel_168 : decode cX4_duel 168 = .ok (.goto (-130), 3) := by decide +kernel
theorem dX4_duel_171 : decode cX4_duel 171 = .ok (.iinc 3 (-1), 3) := by decide +kernel
theorem dX4_duel_174 : decode cX4_duel 174 = .ok (.goto (-143), 3) := by decide +kernel
theorem dX4_duel_177 : decode cX4_duel 177 = .ok (.aload_n 0, 1) := by decide +kernel
theorem dX4_duel_178 : decode cX4_duel 178 = .ok (.iload_n 2, 1) := by decide +kernel
theorem dX4_duel_179 : decode cX4_duel 179 = .ok (.invokevirtual 89, 3) := by decide +kernel
theorem dX4_duel_182 : decode cX4_duel 182 = .ok (.pop, 1) := by decide +kernel
theorem dX4_duel_183 : decode cX4_duel 183 = .ok (.iload_n 2, 1) := by decide +kernel
theorem dX4_duel_184 : decode cX4_duel 184 = .ok (.bipush (-9), 2) := by decide +kernel
theorem dX4_duel_186 : decode cX4_duel 186 = .ok (.if_icmp .ne 7, 3) := by decide +kernel
theorem dX4_duel_189 : decode cX4_duel 189 = .ok (.iconst 0, 1) := by decide +kernel
theorem dX4_duel_190 : decode cX4_duel 190 = .ok (.goto 4, 3) := by decide +kernel
theorem dX4_duel_193 : decode cX4_duel 193 = .ok (.iconst 1, 1) := by decide +kernel
theorem dX4_duel_194 : decode cX4_duel 194 = .ok (.ireturn, 1) := by decide +kernel
theorem dX4_waysOf_0 : decode cX4_waysOf 0 = .ok (.aload_n 0, 1) := by decide +kernel
theorem dX4_waysOf_1 : decode cX4_waysOf 1 = .ok (.invokevirtual 149, 3) := by decide +kernel
theorem dX4_waysOf_4 : decode cX4_waysOf 4 = .ok (.istore_n 3, 1) := by decide +kernel
theorem dX4_waysOf_5 : decode cX4_waysOf 5 = .ok (.lconst 1, 1) := by decide +kernel
theorem dX4_waysOf_6 : decode cX4_waysOf 6 = .ok (.lstore 4, 2) := by decide +kernel
theorem dX4_waysOf_8 : decode cX4_waysOf 8 = .ok (.iconst 0, 1) := by decide +kernel
theorem dX4_waysOf_9 : decode cX4_waysOf 9 = .ok (.istore 6, 2) := by decide +kernel
theorem dX4_waysOf_11 : decode cX4_waysOf 11 = .ok (.iload 6, 2) := by decide +kernel
theorem dX4_waysOf_13 : decode cX4_waysOf 13 = .ok (.aload_n 0, 1) := by decide +kernel
theorem dX4_waysOf_14 : decode cX4_waysOf 14 = .ok (.getfield 104, 3) := by decide +kernel
theorem dX4_waysOf_17 : decode cX4_waysOf 17 = .ok (.if_icmp .ge 47, 3) := by decide +kernel
theorem dX4_waysOf_20 : decode cX4_waysOf 20 = .ok (.lload 4, 2) := by decide +kernel
theorem dX4_waysOf_22 : decode cX4_waysOf 22 = .ok (.iload_n 3, 1) := by decide +kernel
theorem dX4_waysOf_23 : decode cX4_waysOf 23 = .ok (.iload 6, 2) := by decide +kernel
theorem dX4_waysOf_25 : decode cX4_waysOf 25 = .ok (.invokestatic 123, 3) := by decide +kernel
theorem dX4_waysOf_28 : decode cX4_waysOf 28 = .ok (.ifCond .ne 7, 3) := by decide +kernel
theorem dX4_waysOf_31 : decode cX4_waysOf 31 = .ok (.lconst 1, 1) := by decide +kernel
theorem dX4_waysOf_32 : decode cX4_waysOf 32 = .ok (.goto 23, 3) := by decide +kernel
theorem dX4_waysOf_35 : decode cX4_waysOf 35 = .ok (.iload_n 1, 1) := by decide +kernel
theorem dX4_waysOf_36 : decode cX4_waysOf 36 = .ok (.iload 6, 2) := by decide +kernel
theorem dX4_waysOf_38 : decode cX4_waysOf 38 = .ok (.invokestatic 123, 3) := by decide +kernel
theorem dX4_waysOf_41 : decode cX4_waysOf 41 = .ok (.ifCond .eq 12, 3) := by decide +kernel
theorem dX4_waysOf_44 : decode cX4_waysOf 44 = .ok (.ldc2_w 219, 3) := by decide +kernel
theorem dX4_waysOf_47 : decode cX4_waysOf 47 = .ok (.iload_n 2, 1) := by decide +kernel
theorem dX4_waysOf_48 : decode cX4_waysOf 48 = .ok (.i2l, 1) := by decide +kernel
theorem dX4_waysOf_49 : decode cX4_waysOf 49 = .ok (.lsub, 1) := by decide +kernel
theorem dX4_waysOf_50 : decode cX4_waysOf 50 = .ok (.goto 5, 3) := by decide +kernel
theorem dX4_waysOf_53 : decode cX4_waysOf 53 = .ok (.iload_n 2, 1) := by decide +kernel
theorem dX4_waysOf_54 : decode cX4_waysOf 54 = .ok (.i2l, 1) := by decide +kernel
theorem dX4_waysOf_55 : decode cX4_waysOf 55 = .ok (.lmul, 1) := by decide +kernel
theorem dX4_waysOf_56 : decode cX4_waysOf 56 = .ok (.lstore 4, 2) := by decide +kernel
theorem dX4_waysOf_58 : decode cX4_waysOf 58 = .ok (.iinc 6 1, 3) := by decide +kernel
theorem dX4_waysOf_61 : decode cX4_waysOf 61 = .ok (.goto (-50), 3) := by decide +kernel
theorem dX4_waysOf_64 : decode cX4_waysOf 64 = .ok (.iload_n 1, 1) := by decide +kernel
theorem dX4_waysOf_65 : decode cX4_waysOf 65 = .ok (.iload_n 3, 1) := by decide +kernel
theorem dX4_waysOf_66 : decode cX4_waysOf 66 = .ok (.iconst (-1), 1) := by decide +kernel
theorem dX4_waysOf_67 : decode cX4_waysOf 67 = .ok (.ixor, 1) := by decide +kernel
theorem dX4_waysOf_68 : decode cX4_waysOf 68 = .ok (.iand, 1) := by decide +kernel
theorem dX4_waysOf_69 : decode cX4_waysOf 69 = .ok (.ifCond .ne 8, 3) := by decide +kernel
theorem dX4_waysOf_72 : decode cX4_waysOf 72 = .ok (.lload 4, 2) := by decide +kernel
theorem dX4_waysOf_74 : decode cX4_waysOf 74 = .ok (.goto 4, 3) := by decide +kernel
theorem dX4_waysOf_77 : decode cX4_waysOf 77 = .ok (.lconst 0, 1) := by decide +kernel
theorem dX4_waysOf_78 : decode cX4_waysOf 78 = .ok (.lreturn, 1) := by decide +kernel
theorem dX4_allWays_0 : decode cX4_allWays 0 = .ok (.lconst 1, 1) := by decide +kernel
theorem dX4_allWays_1 : decode cX4_allWays 1 = .ok (.lstore_n 1, 1) := by decide +kernel
theorem dX4_allWays_2 : decode cX4_allWays 2 = .ok (.iconst 0, 1) := by decide +kernel
theorem dX4_allWays_3 : decode cX4_allWays 3 = .ok (.istore_n 3, 1) := by decide +kernel
theorem dX4_allWays_4 : decode cX4_allWays 4 = .ok (.iload_n 3, 1) := by decide +kernel
theorem dX4_allWays_5 : decode cX4_allWays 5 = .ok (.aload_n 0, 1) := by decide +kernel
theorem dX4_allWays_6 : decode cX4_allWays 6 = .ok (.invokevirtual 149, 3) := by decide +kernel
theorem dX4_allWays_9 : decode cX4_allWays 9 = .ok (.invokestatic 153, 3) := by decide +kernel
theorem dX4_allWays_12 : decode cX4_allWays 12 = .ok (.if_icmp .ge 15, 3) := by decide +kernel
theorem dX4_allWays_15 : decode cX4_allWays 15 = .ok (.lload_n 1, 1) := by decide +kernel
theorem dX4_allWays_16 : decode cX4_allWays 16 = .ok (.ldc2_w 219, 3) := by decide +kernel
theorem dX4_allWays_19 : decode cX4_allWays 19 = .ok (.lmul, 1) := by decide +kernel
theorem dX4_allWays_20 : decode cX4_allWays 20 = .ok (.lstore_n 1, 1) := by decide +kernel
theorem dX4_allWays_21 : decode cX4_allWays 21 = .ok (.iinc 3 1, 3) := by decide +kernel
theorem dX4_allWays_24 : decode cX4_allWays 24 = .ok (.goto (-20), 3) := by decide +kernel
theorem dX4_allWays_27 : decode cX4_allWays 27 = .ok (.lload_n 1, 1) := by decide +kernel
theorem dX4_allWays_28 : decode cX4_allWays 28 = .ok (.lreturn, 1) := by decide +kernel
theorem dX4_odds_0 : decode cX4_odds 0 = .ok (.iload_n 1, 1) := by decide +kernel
theorem dX4_odds_1 : decode cX4_odds 1 = .ok (.iconst 0, 1) := by decide +kernel
theorem dX4_odds_2 : decode cX4_odds 2 = .ok (.bipush 12, 2) := by decide +kernel
theorem dX4_odds_4 : decode cX4_odds 4 = .ok (.invokestatic 77, 3) := by decide +kernel
theorem dX4_odds_7 : decode cX4_odds 7 = .ok (.ifCond .ne 5, 3) := by decide +kernel
theorem dX4_odds_10 : decode cX4_odds 10 = .ok (.iconst (-1), 1) := by decide +kernel
theorem dX4_odds_11 : decode cX4_odds 11 = .ok (.ireturn, 1) := by decide +kernel
theorem dX4_odds_12 : decode cX4_odds 12 = .ok (.aload_n 0, 1) := by decide +kernel
theorem dX4_odds_13 : decode cX4_odds 13 = .ok (.getfield 104, 3) := by decide +kernel
theorem dX4_odds_16 : decode cX4_odds 16 = .ok (.ifCond .ne 6, 3) := by decide +kernel
theorem dX4_odds_19 : decode cX4_odds 19 = .ok (.bipush (-4), 2) := by decide +kernel
theorem dX4_odds_21 : decode cX4_odds 21 = .ok (.ireturn, 1) := by decide +kernel
theorem dX4_odds_22 : decode cX4_odds 22 = .ok (.aload_n 0, 1) := by decide +kernel
theorem dX4_odds_23 : decode cX4_odds 23 = .ok (.invokevirtual 181, 3) := by decide +kernel
theorem dX4_odds_26 : decode cX4_odds 26 = .ok (.aload_n 0, 1) := by decide +kernel
theorem dX4_odds_27 : decode cX4_odds 27 = .ok (.invokevirtual 190, 3) := by decide +kernel
theorem dX4_odds_30 : decode cX4_odds 30 = .ok (.lconst 0, 1) := by decide +kernel
theorem dX4_odds_31 : decode cX4_odds 31 = .ok (.lstore_n 2, 1) := by decide +kernel
theorem dX4_odds_32 : decode cX4_odds 32 = .ok (.iconst 0, 1) := by decide +kernel
theorem dX4_odds_33 : decode cX4_odds 33 = .ok (.istore 4, 2) := by decide +kernel
theorem dX4_odds_35 : decode cX4_odds 35 = .ok (.iload 4, 2) := by decide +kernel
theorem dX4_odds_37 : decode cX4_odds 37 = .ok (.iconst 1, 1) := by decide +kernel
theorem dX4_odds_38 : decode cX4_odds 38 = .ok (.aload_n 0, 1) := by decide +kernel
theorem dX4_odds_39 : decode cX4_odds 39 = .ok (.getfield 104, 3) := by decide +kernel
theorem dX4_odds_42 : decode cX4_odds 42 = .ok (.ishl, 1) := by decide +kernel
theorem dX4_odds_43 : decode cX4_odds 43 = .ok (.if_icmp .ge 32, 3) := by decide +kernel
theorem dX4_odds_46 : decode cX4_odds 46 = .ok (.lload_n 2, 1) := by decide +kernel
theorem dX4_odds_47 : decode cX4_odds 47 = .ok (.aload_n 0, 1) := by decide +kernel
theorem dX4_odds_48 : decode cX4_odds 48 = .ok (.iload 4, 2) := by decide +kernel
theorem dX4_odds_50 : decode cX4_odds 50 = .ok (.invokevirtual 175, 3) := by decide +kernel
theorem dX4_odds_53 : decode cX4_odds 53 = .ok (.ifCond .le 13, 3) := by decide +kernel
theorem dX4_odds_56 : decode cX4_odds 56 = .ok (.aload_n 0, 1) := by decide +kernel
theorem dX4_odds_57 : decode cX4_odds 57 = .ok (.iload 4, 2) := by decide +kernel
theorem dX4_odds_59 : decode cX4_odds 59 = .ok (.iload_n 1, 1) := by decide +kernel
theorem dX4_odds_60 : decode cX4_odds 60 = .ok (.invokevirtual 221, 3) := by decide +kernel
theorem dX4_odds_63 : decode cX4_odds 63 = .ok (.goto 4, 3) := by decide +kernel
theorem dX4_odds_66 : decode cX4_odds 66 = .ok (.lconst 0, 1) := by decide +kernel
theorem dX4_odds_67 : decode cX4_odds 67 = .ok (.ladd, 1) := by decide +kernel
theorem dX4_odds_68 : decode cX4_odds 68 = .ok (.lstore_n 2, 1) := by decide +kernel
theorem dX4_odds_69 : decode cX4_odds 69 = .ok (.iinc 4 1, 3) := by decide +kernel
theorem dX4_odds_72 : decode cX4_odds 72 = .ok (.goto (-37), 3) := by decide +kernel
theorem dX4_odds_75 : decode cX4_odds 75 = .ok (.aload_n 0, 1) := by decide +kernel
theorem dX4_odds_76 : decode cX4_odds 76 = .ok (.lload_n 2, 1) := by decide +kernel
theorem dX4_odds_77 : decode cX4_odds 77 = .ok (.aload_n 0, 1) := by decide +kernel
theorem dX4_odds_78 : decode cX4_odds 78 = .ok (.invokevirtual 225, 3) := by decide +kernel
theorem dX4_odds_81 : decode cX4_odds 81 = .ok (.invokevirtual 229, 3) := by decide +kernel
theorem dX4_odds_84 : decode cX4_odds 84 = .ok (.ireturn, 1) := by decide +kernel
theorem dX4_mid_0 : decode cX4_mid 0 = .ok (.iload_n 1, 1) := by decide +kernel
theorem dX4_mid_1 : decode cX4_mid 1 = .ok (.iconst 0, 1) := by decide +kernel
theorem dX4_mid_2 : decode cX4_mid 2 = .ok (.bipush 12, 2) := by decide +kernel
theorem dX4_mid_4 : decode cX4_mid 4 = .ok (.invokestatic 77, 3) := by decide +kernel
theorem dX4_mid_7 : decode cX4_mid 7 = .ok (.ifCond .ne 5, 3) := by decide +kernel
theorem dX4_mid_10 : decode cX4_mid 10 = .ok (.iconst (-1), 1) := by decide +kernel
theorem dX4_mid_11 : decode cX4_mid 11 = .ok (.ireturn, 1) := by decide +kernel
theorem dX4_mid_12 : decode cX4_mid 12 = .ok (.aload_n 0, 1) := by decide +kernel
theorem dX4_mid_13 : decode cX4_mid 13 = .ok (.getfield 104, 3) := by decide +kernel
theorem dX4_mid_16 : decode cX4_mid 16 = .ok (.ifCond .ne 6, 3) := by decide +kernel
theorem dX4_mid_19 : decode cX4_mid 19 = .ok (.bipush (-4), 2) := by decide +kernel
theorem dX4_mid_21 : decode cX4_mid 21 = .ok (.ireturn, 1) := by decide +kernel
theorem dX4_mid_22 : decode cX4_mid 22 = .ok (.aload_n 0, 1) := by decide +kernel
theorem dX4_mid_23 : decode cX4_mid 23 = .ok (.invokevirtual 181, 3) := by decide +kernel
theorem dX4_mid_26 : decode cX4_mid 26 = .ok (.aload_n 0, 1) := by decide +kernel
theorem dX4_mid_27 : decode cX4_mid 27 = .ok (.invokevirtual 190, 3) := by decide +kernel
theorem dX4_mid_30 : decode cX4_mid 30 = .ok (.lconst 0, 1) := by decide +kernel
theorem dX4_mid_31 : decode cX4_mid 31 = .ok (.lstore_n 2, 1) := by decide +kernel
theorem dX4_mid_32 : decode cX4_mid 32 = .ok (.iconst 0, 1) := by decide +kernel
theorem dX4_mid_33 : decode cX4_mid 33 = .ok (.istore 4, 2) := by decide +kernel
theorem dX4_mid_35 : decode cX4_mid 35 = .ok (.iload 4, 2) := by decide +kernel
theorem dX4_mid_37 : decode cX4_mid 37 = .ok (.iconst 1, 1) := by decide +kernel
theorem dX4_mid_38 : decode cX4_mid 38 = .ok (.aload_n 0, 1) := by decide +kernel
theorem dX4_mid_39 : decode cX4_mid 39 = .ok (.getfield 104, 3) := by decide +kernel
theorem dX4_mid_42 : decode cX4_mid 42 = .ok (.ishl, 1) := by decide +kernel
theorem dX4_mid_43 : decode cX4_mid 43 = .ok (.if_icmp .ge 27, 3) := by decide +kernel
theorem dX4_mid_46 : decode cX4_mid 46 = .ok (.lload_n 2, 1) := by decide +kernel
theorem dX4_mid_47 : decode cX4_mid 47 = .ok (.aload_n 0, 1) := by decide +kernel
theorem dX4_mid_48 : decode cX4_mid 48 = .ok (.iload 4, 2) := by decide +kernel
theorem dX4_mid_50 : decode cX4_mid 50 = .ok (.iload_n 1, 1) := by decide +kernel
theorem dX4_mid_51 : decode cX4_mid 51 = .ok (.invokevirtual 221, 3) := by decide +kernel
theorem dX4_mid_54 : decode cX4_mid 54 = .ok (.aload_n 0, 1) := by decide +kernel
theorem dX4_mid_55 : decode cX4_mid 55 = .ok (.iload 4, 2) := by decide +kernel
theorem dX4_mid_57 : decode cX4_mid 57 = .ok (.invokevirtual 210, 3) := by decide +kernel
theorem dX4_mid_60 : decode cX4_mid 60 = .ok (.i2l, 1) := by decide +kernel
theorem dX4_mid_61 : decode cX4_mid 61 = .ok (.lmul, 1) := by decide +kernel
theorem dX4_mid_62 : decode cX4_mid 62 = .ok (.ladd, 1) := by decide +kernel
theorem dX4_mid_63 : decode cX4_mid 63 = .ok (.lstore_n 2, 1) := by decide +kernel
theorem dX4_mid_64 : decode cX4_mid 64 = .ok (.iinc 4 1, 3) := by decide +kernel
theorem dX4_mid_67 : decode cX4_mid 67 = .ok (.goto (-32), 3) := by decide +kernel
theorem dX4_mid_70 : decode cX4_mid 70 = .ok (.aload_n 0, 1) := by decide +kernel
theorem dX4_mid_71 : decode cX4_mid 71 = .ok (.lload_n 2, 1) := by decide +kernel
theorem dX4_mid_72 : decode cX4_mid 72 = .ok (.aload_n 0, 1) := by decide +kernel
theorem dX4_mid_73 : decode cX4_mid 73 = .ok (.invokevirtual 225, 3) := by decide +kernel
theorem dX4_mid_76 : decode cX4_mid 76 = .ok (.invokevirtual 229, 3) := by decide +kernel
theorem dX4_mid_79 : decode cX4_mid 79 = .ok (.ireturn, 1) := by decide +kernel
theorem dX4_lot_0 : decode cX4_lot 0 = .ok (.iload_n 1, 1) := by decide +kernel
theorem dX4_lot_1 : decode cX4_lot 1 = .ok (.tableswitch 123 0 2 #[27, 58, 96], 27) := by decide +kernel
theorem dX4_lot_28 : decode cX4_lot 28 = .ok (.iload_n 2, 1) := by decide +kernel
theorem dX4_lot_29 : decode cX4_lot 29 = .ok (.iload_n 3, 1) := by decide +kernel
theorem dX4_lot_30 : decode cX4_lot 30 = .ok (.if_icmp .eq 107, 3) := by decide +kernel
theorem dX4_lot_33 : decode cX4_lot 33 = .ok (.aload_n 0, 1) := by decide +kernel
theorem dX4_lot_34 : decode cX4_lot 34 = .ok (.iload_n 2, 1) := by decide +kernel
theorem dX4_lot_35 : decode cX4_lot 35 = .ok (.invokevirtual 131, 3) := by decide +kernel
theorem dX4_lot_38 : decode cX4_lot 38 = .ok (.ifCond .ne 99, 3) := by decide +kernel
theorem dX4_lot_41 : decode cX4_lot 41 = .ok (.aload_n 0, 1) := by decide +kernel
theorem dX4_lot_42 : decode cX4_lot 42 = .ok (.iload_n 3, 1) := by decide +kernel
theorem dX4_lot_43 : decode cX4_lot 43 = .ok (.invokevirtual 131, 3) := by decide +kernel
theorem dX4_lot_46 : decode cX4_lot 46 = .ok (.ifCond .ne 91, 3) := by decide +kernel
theorem dX4_lot_49 : decode cX4_lot 49 = .ok (.aload_n 0, 1) := by decide +kernel
theorem dX4_lot_50 : decode cX4_lot 50 = .ok (.iload_n 2, 1) := by decide +kernel
theorem dX4_lot_51 : decode cX4_lot 51 = .ok (.iload_n 3, 1) := by decide +kernel
theorem dX4_lot_52 : decode cX4_lot 52 = .ok (.invokevirtual 165, 3) := by decide +kernel
theorem dX4_lot_55 : decode cX4_lot 55 = .ok (.pop, 1) := by decide +kernel
theorem dX4_lot_56 : decode cX4_lot 56 = .ok (.goto 81, 3) := by decide +kernel
theorem dX4_lot_59 : decode cX4_lot 59 = .ok (.aload_n 0, 1) := by decide +kernel
theorem dX4_lot_60 : decode cX4_lot 60 = .ok (.getfield 42, 3) := by decide +kernel
theorem dX4_lot_63 : decode cX4_lot 63 = .ok (.bipush 10, 2) := by decide +kernel
theorem dX4_lot_65 : decode cX4_lot 65 = .ok (.aload_n 0, 1) := by decide +kernel
theorem dX4_lot_66 : decode cX4_lot 66 = .ok (.getfield 107, 3) := by decide +kernel
theorem dX4_lot_69 : decode cX4_lot 69 = .ok (.imul, 1) := by decide +kernel
theorem dX4_lot_70 : decode cX4_lot 70 = .ok (.bipush 9, 2) := by decide +kernel
theorem dX4_lot_72 : decode cX4_lot 72 = .ok (.iadd, 1) := by decide +kernel
theorem dX4_lot_73 : decode cX4_lot 73 = .ok (.dup2, 1) := by decide +kernel
theorem dX4_lot_74 : decode cX4_lot 74 = .ok (.iaload, 1) := by decide +kernel
theorem dX4_lot_75 : decode cX4_lot 75 = .ok (.aload_n 0, 1) := by decide +kernel
theorem dX4_lot_76 : decode cX4_lot 76 = .ok (.iload_n 2, 1) := by decide +kernel
theorem dX4_lot_77 : decode cX4_lot 77 = .ok (.invokevirtual 131, 3) := by decide +kernel
theorem dX4_lot_80 : decode cX4_lot 80 = .ok (.ifCond .eq 7, 3) := by decide +kernel
theorem dX4_lot_83 : decode cX4_lot 83 = .ok (.iconst 0, 1) := by decide +kernel
theorem dX4_lot_84 : decode cX4_lot 84 = .ok (.goto 8, 3) := by decide +kernel
theorem dX4_lot_87 : decode cX4_lot 87 = .ok (.aload_n 0, 1) := by decide +kernel
theorem dX4_lot_88 : decode cX4_lot 88 = .ok (.iload_n 2, 1) := by decide +kernel
theorem dX4_lot_89 : decode cX4_lot 89 = .ok (.invokevirtual 140, 3) := by decide +kernel
theorem dX4_lot_92 : decode cX4_lot 92 = .ok (.ior, 1) := by decide +kernel
theorem dX4_lot_93 : decode cX4_lot 93 = .ok (.iastore, 1) := by decide +kernel
theorem dX4_lot_94 : decode cX4_lot 94 = .ok (.goto 43, 3) := by decide +kernel
theorem dX4_lot_97 : decode cX4_lot 97 = .ok (.aload_n 0, 1) := by decide +kernel
theorem dX4_lot_98 : decode cX4_lot 98 = .ok (.iload_n 2, 1) := by decide +kernel
theorem dX4_lot_99 : decode cX4_lot 99 = .ok (.aload_n 0, 1) := by decide +kernel
theorem dX4_lot_100 : decode cX4_lot 100 = .ok (.iload_n 2, 1) := by decide +kernel
theorem dX4_lot_101 : decode cX4_lot 101 = .ok (.invokevirtual 131, 3) := by decide +kernel
theorem dX4_lot_104 : decode cX4_lot 104 = .ok (.ifCond .eq 7, 3) := by decide +kernel
theorem dX4_lot_107 : decode cX4_lot 107 = .ok (.iconst 0, 1) := by decide +kernel
theorem dX4_lot_108 : decode cX4_lot 108 = .ok (.goto 9, 3) := by decide +kernel
theorem dX4_lot_111 : decode cX4_lot 111 = .ok (.aload_n 0, 1) := by decide +kernel
theorem dX4_lot_112 : decode cX4_lot 112 = .ok (.bipush 9, 2) := by decide +kernel
theorem dX4_lot_114 : decode cX4_lot 114 = .ok (.invokevirtual 110, 3) := by decide +kernel
theorem dX4_lot_117 : decode cX4_lot 117 = .ok (.invokevirtual 159, 3) := by decide +kernel
theorem dX4_lot_120 : decode cX4_lot 120 = .ok (.pop, 1) := by decide +kernel
theorem dX4_lot_121 : decode cX4_lot 121 = .ok (.goto 16, 3) := by decide +kernel
theorem dX4_lot_124 : decode cX4_lot 124 = .ok (.aload_n 0, 1) := by decide +kernel
theorem dX4_lot_125 : decode cX4_lot 125 = .ok (.iload_n 2, 1) := by decide +kernel
theorem dX4_lot_126 : decode cX4_lot 126 = .ok (.invokevirtual 137, 3) := by decide +kernel
theorem dX4_lot_129 : decode cX4_lot 129 = .ok (.ifCond .eq 8, 3) := by decide +kernel
theorem dX4_lot_132 : decode cX4_lot 132 = .ok (.aload_n 0, 1) := by decide +kernel
theorem dX4_lot_133 : decode cX4_lot 133 = .ok (.iload_n 2, 1) := by decide +kernel
theorem dX4_lot_134 : decode cX4_lot 134 = .ok (.invokevirtual 168, 3) := by decide +kernel
theorem dX4_lot_137 : decode cX4_lot 137 = .ok (.return_, 1) := by decide +kernel
theorem dX4_lots_0 : decode cX4_lots 0 = .ok (.iload_n 1, 1) := by decide +kernel
theorem dX4_lots_1 : decode cX4_lots 1 = .ok (.iconst 1, 1) := by decide +kernel
theorem dX4_lots_2 : decode cX4_lots 2 = .ok (.bipush 20, 2) := by decide +kernel
theorem dX4_lots_4 : decode cX4_lots 4 = .ok (.invokestatic 77, 3) := by decide +kernel
theorem dX4_lots_7 : decode cX4_lots 7 = .ok (.ifCond .eq 13, 3) := by decide +kernel
theorem dX4_lots_10 : decode cX4_lots 10 = .ok (.iload_n 2, 1) := by decide +kernel
theorem dX4_lots_11 : decode cX4_lots 11 = .ok (.iconst 1, 1) := by decide +kernel
theorem dX4_lots_12 : decode cX4_lots 12 = .ok (.ldc 233, 2) := by decide +kernel
theorem dX4_lots_14 : decode cX4_lots 14 = .ok (.invokestatic 77, 3) := by decide +kernel
theorem dX4_lots_17 : decode cX4_lots 17 = .ok (.ifCond .ne 5, 3) := by decide +kernel
theorem dX4_lots_20 : decode cX4_lots 20 = .ok (.iconst (-1), 1) := by decide +kernel
theorem dX4_lots_21 : decode cX4_lots 21 = .ok (.ireturn, 1) := by decide +kernel
theorem dX4_lots_22 : decode cX4_lots 22 = .ok (.aload_n 0, 1) := by decide +kernel
theorem dX4_lots_23 : decode cX4_lots 23 = .ok (.getfield 104, 3) := by decide +kernel
theorem dX4_lots_26 : decode cX4_lots 26 = .ok (.ifCond .ne 6, 3) := by decide +kernel
theorem dX4_lots_29 : decode cX4_lots 29 = .ok (.bipush (-4), 2) := by decide +kernel
theorem dX4_lots_31 : decode cX4_lots 31 = .ok (.ireturn, 1) := by decide +kernel
theorem dX4_lots_32 : decode cX4_lots 32 = .ok (.aload_n 0, 1) := by decide +kernel
theorem dX4_lots_33 : decode cX4_lots 33 = .ok (.getfield 107, 3) := by decide +kernel
theorem dX4_lots_36 : decode cX4_lots 36 = .ok (.iload_n 1, 1) := by decide +kernel
theorem dX4_lots_37 : decode cX4_lots 37 = .ok (.iadd, 1) := by decide +kernel
theorem dX4_lots_38 : decode cX4_lots 38 = .ok (.bipush 40, 2) := by decide +kernel
theorem dX4_lots_40 : decode cX4_lots 40 = .ok (.if_icmp .le 6, 3) := by decide +kernel
theorem dX4_lots_43 : decode cX4_lots 43 = .ok (.bipush (-2), 2) := by decide +kernel
theorem dX4_lots_45 : decode cX4_lots 45 = .ok (.ireturn, 1) := by decide +kernel
theorem dX4_lots_46 : decode cX4_lots 46 = .ok (.iload_n 2, 1) := by decide +kernel
theorem dX4_lots_47 : decode cX4_lots 47 = .ok (.i2l, 1) := by decide +kernel
theorem dX4_lots_48 : decode cX4_lots 48 = .ok (.lstore_n 3, 1) := by decide +kernel
theorem dX4_lots_49 : decode cX4_lots 49 = .ok (.iconst 0, 1) := by decide +kernel
theorem dX4_lots_50 : decode cX4_lots 50 = .ok (.istore 5, 2) := by decide +kernel
theorem dX4_lots_52 : decode cX4_lots 52 = .ok (.iload 5, 2) := by decide +kernel
theorem dX4_lots_54 : decode cX4_lots 54 = .ok (.iload_n 1, 1) := by decide +kernel
theorem dX4_lots_55 : decode cX4_lots 55 = .ok (.if_icmp .ge 57, 3) := by decide +kernel
theorem dX4_lots_58 : decode cX4_lots 58 = .ok (.lload_n 3, 1) := by decide +kernel
theorem dX4_lots_59 : decode cX4_lots 59 = .ok (.ldc2_w 234, 3) := by decide +kernel
theorem dX4_lots_62 : decode cX4_lots 62 = .ok (.lmul, 1) := by decide +kernel
theorem dX4_lots_63 : decode cX4_lots 63 = .ok (.ldc2_w 236, 3) := by decide +kernel
theorem dX4_lots_66 : decode cX4_lots 66 = .ok (.lrem, 1) := by decide +kernel
theorem dX4_lots_67 : decode cX4_lots 67 = .ok (.lstore_n 3, 1) := by decide +kernel
theorem dX4_lots_68 : decode cX4_lots 68 = .ok (.aload_n 0, 1) := by decide +kernel
theorem dX4_lots_69 : decode cX4_lots 69 = .ok (.invokevirtual 162, 3) := by decide +kernel
theorem dX4_lots_72 : decode cX4_lots 72 = .ok (.aload_n 0, 1) := by decide +kernel
theorem dX4_lots_73 : decode cX4_lots 73 = .ok (.lload_n 3, 1) := by decide +kernel
theorem dX4_lots_74 : decode cX4_lots 74 = .ok (.ldc2_w 238, 3) := by decide +kernel
theorem dX4_lots_77 : decode cX4_lots 77 = .ok (.lrem, 1) := by decide +kernel
theorem dX4_lots_78 : decode cX4_lots 78 = .ok (.l2i, 1) := by decide +kernel
theorem dX4_lots_79 : decode cX4_lots 79 = .ok (.lload_n 3, 1) := by decide +kernel
theorem dX4_lots_80 : decode cX4_lots 80 = .ok (.ldc2_w 240, 3) := by decide +kernel
theorem dX4_lots_83 : decode cX4_lots 83 = .ok (.ldiv, 1) := by decide +kernel
theorem dX4_lots_84 : decode cX4_lots 84 = .ok (.aload_n 0, 1) := by decide +kernel
theorem dX4_lots_85 : decode cX4_lots 85 = .ok (.getfield 104, 3) := by decide +kernel
theorem dX4_lots_88 : decode cX4_lots 88 = .ok (.i2l, 1) := by decide +kernel
theorem dX4_lots_89 : decode cX4_lots 89 = .ok (.lrem, 1) := by decide +kernel
theorem dX4_lots_90 : decode cX4_lots 90 = .ok (.l2i, 1) := by decide +kernel
theorem dX4_lots_91 : decode cX4_lots 91 = .ok (.lload_n 3, 1) := by decide +kernel
theorem dX4_lots_92 : decode cX4_lots 92 = .ok (.ldc2_w 242, 3) := by decide +kernel
theorem dX4_lots_95 : decode cX4_lots 95 = .ok (.ldiv, 1) := by decide +kernel
theorem dX4_lots_96 : decode cX4_lots 96 = .ok (.aload_n 0, 1) := by decide +kernel
theorem dX4_lots_97 : decode cX4_lots 97 = .ok (.getfield 104, 3) := by decide +kernel
theorem dX4_lots_100 : decode cX4_lots 100 = .ok (.i2l, 1) := by decide +kernel
theorem dX4_lots_101 : decode cX4_lots 101 = .ok (.lrem, 1) := by decide +kernel
theorem dX4_lots_102 : decode cX4_lots 102 = .ok (.l2i, 1) := by decide +kernel
theorem dX4_lots_103 : decode cX4_lots 103 = .ok (.invokevirtual 244, 3) := by decide +kernel
theorem dX4_lots_106 : decode cX4_lots 106 = .ok (.iinc 5 1, 3) := by decide +kernel
theorem dX4_lots_109 : decode cX4_lots 109 = .ok (.goto (-57), 3) := by decide +kernel
theorem dX4_lots_112 : decode cX4_lots 112 = .ok (.aload_n 0, 1) := by decide +kernel
theorem dX4_lots_113 : decode cX4_lots 113 = .ok (.bipush 7, 2) := by decide +kernel
theorem dX4_lots_115 : decode cX4_lots 115 = .ok (.invokevirtual 110, 3) := by decide +kernel
theorem dX4_lots_118 : decode cX4_lots 118 = .ok (.invokestatic 153, 3) := by decide +kernel
theorem dX4_lots_121 : decode cX4_lots 121 = .ok (.ireturn, 1) := by decide +kernel
theorem dX4_asked_0 : decode cX4_asked 0 = .ok (.aload_n 0, 1) := by decide +kernel
theorem dX4_asked_1 : decode cX4_asked 1 = .ok (.getfield 71, 3) := by decide +kernel
theorem dX4_asked_4 : decode cX4_asked 4 = .ok (.ireturn, 1) := by decide +kernel
theorem dX4_upper_0 : decode cX4_upper 0 = .ok (.aload_n 0, 1) := by decide +kernel
theorem dX4_upper_1 : decode cX4_upper 1 = .ok (.getfield 74, 3) := by decide +kernel
theorem dX4_upper_4 : decode cX4_upper 4 = .ok (.lreturn, 1) := by decide +kernel
theorem dX4_lower_0 : decode cX4_lower 0 = .ok (.aload_n 0, 1) := by decide +kernel
theorem dX4_lower_1 : decode cX4_lower 1 = .ok (.getfield 13, 3) := by decide +kernel
theorem dX4_lower_4 : decode cX4_lower 4 = .ok (.lreturn, 1) := by decide +kernel
theorem dX4_thereAre_0 : decode cX4_thereAre 0 = .ok (.iconst 0, 1) := by decide +kernel
theorem dX4_thereAre_1 : decode cX4_thereAre 1 = .ok (.istore_n 2, 1) := by decide +kernel
theorem dX4_thereAre_2 : decode cX4_thereAre 2 = .ok (.iconst 0, 1) := by decide +kernel
theorem dX4_thereAre_3 : decode cX4_thereAre 3 = .ok (.istore_n 3, 1) := by decide +kernel
theorem dX4_thereAre_4 : decode cX4_thereAre 4 = .ok (.iload_n 3, 1) := by decide +kernel
theorem dX4_thereAre_5 : decode cX4_thereAre 5 = .ok (.bipush 6, 2) := by decide +kernel
theorem dX4_thereAre_7 : decode cX4_thereAre 7 = .ok (.if_icmp .ge 106, 3) := by decide +kernel
theorem dX4_thereAre_10 : decode cX4_thereAre 10 = .ok (.iload_n 2, 1) := by decide +kernel
theorem dX4_thereAre_11 : decode cX4_thereAre 11 = .ok (.iload_n 1, 1) := by decide +kernel
theorem dX4_thereAre_12 : decode cX4_thereAre 12 = .ok (.bipush 7, 2) := by decide +kernel
theorem dX4_thereAre_14 : decode cX4_thereAre 14 = .ok (.if_icmp .ne 16, 3) := by decide +kernel
theorem dX4_thereAre_17 : decode cX4_thereAre 17 = .ok (.aload_n 0, 1) := by decide +kernel
theorem dX4_thereAre_18 : decode cX4_thereAre 18 = .ok (.getfield 17, 3) := by decide +kernel
theorem dX4_thereAre_21 : decode cX4_thereAre 21 = .ok (.iload_n 3, 1) := by decide +kernel
theorem dX4_thereAre_22 : decode cX4_thereAre 22 = .ok (.iaload, 1) := by decide +kernel
theorem dX4_thereAre_23 : decode cX4_thereAre 23 = .ok (.ifCond .lt 7, 3) := by decide +kernel
theorem dX4_thereAre_26 : decode cX4_thereAre 26 = .ok (.iconst 1, 1) := by decide +kernel
theorem dX4_thereAre_27 : decode cX4_thereAre 27 = .ok (.goto 4, 3) := by decide +kernel
theorem dX4_thereAre_30 : decode cX4_thereAre 30 = .ok (.iconst 0, 1) := by decide +kernel
theorem dX4_thereAre_31 : decode cX4_thereAre 31 = .ok (.iadd, 1) := by decide +kernel
theorem dX4_thereAre_32 : decode cX4_thereAre 32 = .ok (.istore_n 2, 1) := by decide +kernel
theorem dX4_thereAre_33 : decode cX4_thereAre 33 = .ok (.iload_n 2, 1) := by decide +kernel
theorem dX4_thereAre_34 : decode cX4_thereAre 34 = .ok (.iload_n 1, 1) := by decide +kernel
theorem dX4_thereAre_35 : decode cX4_thereAre 35 = .ok (.bipush 8, 2) := by decide +kernel
theorem dX4_thereAre_37 : decode cX4_thereAre 37 = .ok (.if_icmp .ne 30, 3) := by decide +kernel
theorem dX4_thereAre_40 : decode cX4_thereAre 40 = .ok (.iload_n 3, 1) := by decide +kernel
theorem dX4_thereAre_41 : decode cX4_thereAre 41 = .ok (.iconst 4, 1) := by decide +kernel
theorem dX4_thereAre_42 : decode cX4_thereAre 42 = .ok (.if_icmp .ge 25, 3) := by decide +kernel
theorem dX4_thereAre_45 : decode cX4_thereAre 45 = .ok (.aload_n 0, 1) := by decide +kernel
theorem dX4_thereAre_46 : decode cX4_thereAre 46 = .ok (.getfield 23, 3) := by decide +kernel
theorem dX4_thereAre_49 : decode cX4_thereAre 49 = .ok (.iload_n 3, 1) := by decide +kernel
theorem dX4_thereAre_50 : decode cX4_thereAre 50 = .ok (.iconst 4, 1) := by decide +kernel
theorem dX4_thereAre_51 : decode cX4_thereAre 51 = .ok (.if_icmp .ge 7, 3) := by decide +kernel
theorem dX4_thereAre_54 : decode cX4_thereAre 54 = .ok (.iload_n 3, 1) := by decide +kernel
theorem dX4_thereAre_55 : decode cX4_thereAre 55 = .ok (.goto 4, 3) := by decide +kernel
theorem dX4_thereAre_58 : decode cX4_thereAre 58 = .ok (.iconst 0, 1) := by decide +kernel
theorem dX4_thereAre_59 : decode cX4_thereAre 59 = .ok (.iaload, 1) := by decide +kernel
theorem dX4_thereAre_60 : decode cX4_thereAre 60 = .ok (.ifCond .lt 7, 3) := by decide +kernel
theorem dX4_thereAre_63 : decode cX4_thereAre 63 = .ok (.iconst 1, 1) := by decide +kernel
theorem dX4_thereAre_64 : decode cX4_thereAre 64 = .ok (.goto 4, 3) := by decide +kernel
theorem dX4_thereAre_67 : decode cX4_thereAre 67 = .ok (.iconst 0, 1) := by decide +kernel
theorem dX4_thereAre_68 : decode cX4_thereAre 68 = .ok (.iadd, 1) := by decide +kernel
theorem dX4_thereAre_69 : decode cX4_thereAre 69 = .ok (.istore_n 2, 1) := by decide +kernel
theorem dX4_thereAre_70 : decode cX4_thereAre 70 = .ok (.iload_n 2, 1) := by decide +kernel
theorem dX4_thereAre_71 : decode cX4_thereAre 71 = .ok (.iload_n 1, 1) := by decide +kernel
theorem dX4_thereAre_72 : decode cX4_thereAre 72 = .ok (.bipush 9, 2) := by decide +kernel
theorem dX4_thereAre_74 : decode cX4_thereAre 74 = .ok (.if_icmp .ne 30, 3) := by decide +kernel
theorem dX4_thereAre_77 : decode cX4_thereAre 77 = .ok (.iload_n 3, 1) := by decide +kernel
theorem dX4_thereAre_78 : decode cX4_thereAre 78 = .ok (.iconst 3, 1) := by decide +kernel
theorem dX4_thereAre_79 : decode cX4_thereAre 79 = .ok (.if_icmp .ge 25, 3) := by decide +kernel
theorem dX4_thereAre_82 : decode cX4_thereAre 82 = .ok (.aload_n 0, 1) := by decide +kernel
theorem dX4_thereAre_83 : decode cX4_thereAre 83 = .ok (.getfield 48, 3) := by decide +kernel
theorem dX4_thereAre_86 : decode cX4_thereAre 86 = .ok (.iload_n 3, 1) := by decide +kernel
theorem dX4_thereAre_87 : decode cX4_thereAre 87 = .ok (.iconst 3, 1) := by decide +kernel
theorem dX4_thereAre_88 : decode cX4_thereAre 88 = .ok (.if_icmp .ge 7, 3) := by decide +kernel
theorem dX4_thereAre_91 : decode cX4_thereAre 91 = .ok (.iload_n 3, 1) := by decide +kernel
theorem dX4_thereAre_92 : decode cX4_thereAre 92 = .ok (.goto 4, 3) := by decide +kernel
theorem dX4_thereAre_95 : decode cX4_thereAre 95 = .ok (.iconst 0, 1) := by decide +kernel
theorem dX4_thereAre_96 : decode cX4_thereAre 96 = .ok (.iaload, 1) := by decide +kernel
theorem dX4_thereAre_97 : decode cX4_thereAre 97 = .ok (.ifCond .lt 7, 3) := by decide +kernel
theorem dX4_thereAre_100 : decode cX4_thereAre 100 = .ok (.iconst 1, 1) := by decide +kernel
theorem dX4_thereAre_101 : decode cX4_thereAre 101 = .ok (.goto 4, 3) := by decide +kernel
theorem dX4_thereAre_104 : decode cX4_thereAre 104 = .ok (.iconst 0, 1) := by decide +kernel
theorem dX4_thereAre_105 : decode cX4_thereAre 105 = .ok (.iadd, 1) := by decide +kernel
theorem dX4_thereAre_106 : decode cX4_thereAre 106 = .ok (.istore_n 2, 1) := by decide +kernel
theorem dX4_thereAre_107 : decode cX4_thereAre 107 = .ok (.iinc 3 1, 3) := by decide +kernel
theorem dX4_thereAre_110 : decode cX4_thereAre 110 = .ok (.goto (-106), 3) := by decide +kernel
theorem dX4_thereAre_113 : decode cX4_thereAre 113 = .ok (.iload_n 2, 1) := by decide +kernel
theorem dX4_thereAre_114 : decode cX4_thereAre 114 = .ok (.ireturn, 1) := by decide +kernel
theorem dX4_count_0 : decode cX4_count 0 = .ok (.iload_n 1, 1) := by decide +kernel
theorem dX4_count_1 : decode cX4_count 1 = .ok (.tableswitch 142 0 11 #[63, 68, 78, 83, 90, 97, 104, 112, 112, 112, 118, 133], 63) := by decide +kernel
theorem dX4_count_64 : decode cX4_count 64 = .ok (.aload_n 0, 1) := by decide +kernel
theorem dX4_count_65 : decode cX4_count 65 = .ok (.getfield 104, 3) := by decide +kernel
theorem dX4_count_68 : decode cX4_count 68 = .ok (.ireturn, 1) := by decide +kernel
theorem dX4_count_69 : decode cX4_count 69 = .ok (.aload_n 0, 1) := by decide +kernel
theorem dX4_count_70 : decode cX4_count 70 = .ok (.bipush 7, 2) := by decide +kernel
theorem dX4_count_72 : decode cX4_count 72 = .ok (.invokevirtual 110, 3) := by decide +kernel
theorem dX4_count_75 : decode cX4_count 75 = .ok (.invokestatic 153, 3) := by decide +kernel
theorem dX4_count_78 : decode cX4_count 78 = .ok (.ireturn, 1) := by decide +kernel
theorem dX4_count_79 : decode cX4_count 79 = .ok (.aload_n 0, 1) := by decide +kernel
theorem dX4_count_80 : decode cX4_count 80 = .ok (.getfield 107, 3) := by decide +kernel
theorem dX4_count_83 : decode cX4_count 83 = .ok (.ireturn, 1) := by decide +kernel
theorem dX4_count_84 : decode cX4_count 84 = .ok (.aload_n 0, 1) := by decide +kernel
theorem dX4_count_85 : decode cX4_count 85 = .ok (.bipush 8, 2) := by decide +kernel
theorem dX4_count_87 : decode cX4_count 87 = .ok (.invokevirtual 110, 3) := by decide +kernel
theorem dX4_count_90 : decode cX4_count 90 = .ok (.ireturn, 1) := by decide +kernel
theorem dX4_count_91 : decode cX4_count 91 = .ok (.aload_n 0, 1) := by decide +kernel
theorem dX4_count_92 : decode cX4_count 92 = .ok (.bipush 7, 2) := by decide +kernel
theorem dX4_count_94 : decode cX4_count 94 = .ok (.invokevirtual 110, 3) := by decide +kernel
theorem dX4_count_97 : decode cX4_count 97 = .ok (.ireturn, 1) := by decide +kernel
theorem dX4_count_98 : decode cX4_count 98 = .ok (.aload_n 0, 1) := by decide +kernel
theorem dX4_count_99 : decode cX4_count 99 = .ok (.bipush 9, 2) := by decide +kernel
theorem dX4_count_101 : decode cX4_count 101 = .ok (.invokevirtual 110, 3) := by decide +kernel
theorem dX4_count_104 : decode cX4_count 104 = .ok (.ireturn, 1) := by decide +kernel
theorem dX4_count_105 : decode cX4_count 105 = .ok (.aload_n 0, 1) := by decide +kernel
theorem dX4_count_106 : decode cX4_count 106 = .ok (.invokevirtual 178, 3) := by decide +kernel
theorem dX4_count_109 : decode cX4_count 109 = .ok (.invokestatic 153, 3) := by decide +kernel
theorem dX4_count_112 : decode cX4_count 112 = .ok (.ireturn, 1) := by decide +kernel
theorem dX4_count_113 : decode cX4_count 113 = .ok (.aload_n 0, 1) := by decide +kernel
theorem dX4_count_114 : decode cX4_count 114 = .ok (.iload_n 1, 1) := by decide +kernel
theorem dX4_count_115 : decode cX4_count 115 = .ok (.invokevirtual 248, 3) := by decide +kernel
theorem dX4_count_118 : decode cX4_count 118 = .ok (.ireturn, 1) := by decide +kernel
theorem dX4_count_119 : decode cX4_count 119 = .ok (.aload_n 0, 1) := by decide +kernel
theorem dX4_count_120 : decode cX4_count 120 = .ok (.iconst 4, 1) := by decide +kernel
theorem dX4_count_121 : decode cX4_count 121 = .ok (.invokevirtual 120, 3) := by decide +kernel
theorem dX4_count_124 : decode cX4_count 124 = .ok (.aload_n 0, 1) := by decide +kernel
theorem dX4_count_125 : decode cX4_count 125 = .ok (.iconst 5, 1) := by decide +kernel
theorem dX4_count_126 : decode cX4_count 126 = .ok (.invokevirtual 120, 3) := by decide +kernel
theorem dX4_count_129 : decode cX4_count 129 = .ok (.ior, 1) := by decide +kernel
theorem dX4_count_130 : decode cX4_count 130 = .ok (.invokestatic 153, 3) := by decide +kernel
theorem dX4_count_133 : decode cX4_count 133 = .ok (.ireturn, 1) := by decide +kernel
theorem dX4_count_134 : decode cX4_count 134 = .ok (.aload_n 0, 1) := by decide +kernel
theorem dX4_count_135 : decode cX4_count 135 = .ok (.iconst 1, 1) := by decide +kernel
theorem dX4_count_136 : decode cX4_count 136 = .ok (.invokevirtual 120, 3) := by decide +kernel
theorem dX4_count_139 : decode cX4_count 139 = .ok (.invokestatic 153, 3) := by decide +kernel
theorem dX4_count_142 : decode cX4_count 142 = .ok (.ireturn, 1) := by decide +kernel
theorem dX4_count_143 : decode cX4_count 143 = .ok (.iconst (-1), 1) := by decide +kernel
theorem dX4_count_144 : decode cX4_count 144 = .ok (.ireturn, 1) := by decide +kernel
theorem dX4_finding_0 : decode cX4_finding 0 = .ok (.aload_n 0, 1) := by decide +kernel
theorem dX4_finding_1 : decode cX4_finding 1 = .ok (.getfield 67, 3) := by decide +kernel
theorem dX4_finding_4 : decode cX4_finding 4 = .ok (.ireturn, 1) := by decide +kernel
theorem dX4_findings_0 : decode cX4_findings 0 = .ok (.iload_n 1, 1) := by decide +kernel
theorem dX4_findings_1 : decode cX4_findings 1 = .ok (.iconst 1, 1) := by decide +kernel
theorem dX4_findings_2 : decode cX4_findings 2 = .ok (.iconst 5, 1) := by decide +kernel
theorem dX4_findings_3 : decode cX4_findings 3 = .ok (.invokestatic 77, 3) := by decide +kernel
theorem dX4_findings_6 : decode cX4_findings 6 = .ok (.ifCond .eq 12, 3) := by decide +kernel
theorem dX4_findings_9 : decode cX4_findings 9 = .ok (.aload_n 0, 1) := by decide +kernel
theorem dX4_findings_10 : decode cX4_findings 10 = .ok (.getfield 7, 3) := by decide +kernel
theorem dX4_findings_13 : decode cX4_findings 13 = .ok (.iload_n 1, 1) := by decide +kernel
theorem dX4_findings_14 : decode cX4_findings 14 = .ok (.iaload, 1) := by decide +kernel
theorem dX4_findings_15 : decode cX4_findings 15 = .ok (.goto 4, 3) := by decide +kernel
theorem dX4_findings_18 : decode cX4_findings 18 = .ok (.iconst (-1), 1) := by decide +kernel
theorem dX4_findings_19 : decode cX4_findings 19 = .ok (.ireturn, 1) := by decide +kernel
theorem dX4_digest_0 : decode cX4_digest 0 = .ok (.ldc2_w 251, 3) := by decide +kernel
theorem dX4_digest_3 : decode cX4_digest 3 = .ok (.lstore_n 1, 1) := by decide +kernel
theorem dX4_digest_4 : decode cX4_digest 4 = .ok (.iconst 0, 1) := by decide +kernel
theorem dX4_digest_5 : decode cX4_digest 5 = .ok (.istore_n 3, 1) := by decide +kernel
theorem dX4_digest_6 : decode cX4_digest 6 = .ok (.iload_n 3, 1) := by decide +kernel
theorem dX4_digest_7 : decode cX4_digest 7 = .ok (.bipush 11, 2) := by decide +kernel
theorem dX4_digest_9 : decode cX4_digest 9 = .ok (.if_icmp .gt 22, 3) := by decide +kernel
theorem dX4_digest_12 : decode cX4_digest 12 = .ok (.ldc2_w 253, 3) := by decide +kernel
theorem dX4_digest_15 : decode cX4_digest 15 = .ok (.lload_n 1, 1) := by decide +kernel
theorem dX4_digest_16 : decode cX4_digest 16 = .ok (.lmul, 1) := by decide +kernel
theorem dX4_digest_17 : decode cX4_digest 17 = .ok (.aload_n 0, 1) := by decide +kernel
theorem dX4_digest_18 : decode cX4_digest 18 = .ok (.iload_n 3, 1) := by decide +kernel
theorem dX4_digest_19 : decode cX4_digest 19 = .ok (.invokevirtual 255, 3) := by decide +kernel
theorem dX4_digest_22 : decode cX4_digest 22 = .ok (.i2l, 1) := by decide +kernel
theorem dX4_digest_23 : decode cX4_digest 23 = .ok (.ladd, 1) := by decide +kernel
theorem dX4_digest_24 : decode cX4_digest 24 = .ok (.lstore_n 1, 1) := by decide +kernel
theorem dX4_digest_25 : decode cX4_digest 25 = .ok (.iinc 3 1, 3) := by decide +kernel
theorem dX4_digest_28 : decode cX4_digest 28 = .ok (.goto (-22), 3) := by decide +kernel
theorem dX4_digest_31 : decode cX4_digest 31 = .ok (.iconst 0, 1) := by decide +kernel
theorem dX4_digest_32 : decode cX4_digest 32 = .ok (.istore_n 3, 1) := by decide +kernel
theorem dX4_digest_33 : decode cX4_digest 33 = .ok (.iload_n 3, 1) := by decide +kernel
theorem dX4_digest_34 : decode cX4_digest 34 = .ok (.aload_n 0, 1) := by decide +kernel
theorem dX4_digest_35 : decode cX4_digest 35 = .ok (.getfield 104, 3) := by decide +kernel
theorem dX4_digest_38 : decode cX4_digest 38 = .ok (.if_icmp .ge 40, 3) := by decide +kernel
theorem dX4_digest_41 : decode cX4_digest 41 = .ok (.iconst 0, 1) := by decide +kernel
theorem dX4_digest_42 : decode cX4_digest 42 = .ok (.istore 4, 2) := by decide +kernel
theorem dX4_digest_44 : decode cX4_digest 44 = .ok (.iload 4, 2) := by decide +kernel
theorem dX4_digest_46 : decode cX4_digest 46 = .ok (.bipush 6, 2) := by decide +kernel
theorem dX4_digest_48 : decode cX4_digest 48 = .ok (.if_icmp .gt 24, 3) := by decide +kernel
theorem dX4_digest_51 : decode cX4_digest 51 = .ok (.ldc2_w 253, 3) := by decide +kernel
theorem dX4_digest_54 : decode cX4_digest 54 = .ok (.lload_n 1, 1) := by decide +kernel
theorem dX4_digest_55 : decode cX4_digest 55 = .ok (.lmul, 1) := by decide +kernel
theorem dX4_digest_56 : decode cX4_digest 56 = .ok (.aload_n 0, 1) := by decide +kernel
theorem dX4_digest_57 : decode cX4_digest 57 = .ok (.iload_n 3, 1) := by decide +kernel
theorem dX4_digest_58 : decode cX4_digest 58 = .ok (.iload 4, 2) := by decide +kernel
theorem dX4_digest_60 : decode cX4_digest 60 = .ok (.invokevirtual 146, 3) := by decide +kernel
theorem dX4_digest_63 : decode cX4_digest 63 = .ok (.i2l, 1) := by decide +kernel
theorem dX4_digest_64 : decode cX4_digest 64 = .ok (.ladd, 1) := by decide +kernel
theorem dX4_digest_65 : decode cX4_digest 65 = .ok (.lstore_n 1, 1) := by decide +kernel
theorem dX4_digest_66 : decode cX4_digest 66 = .ok (.iinc 4 1, 3) := by decide +kernel
theorem dX4_digest_69 : decode cX4_digest 69 = .ok (.goto (-25), 3) := by decide +kernel
theorem dX4_digest_72 : decode cX4_digest 72 = .ok (.iinc 3 1, 3) := by decide +kernel
theorem dX4_digest_75 : decode cX4_digest 75 = .ok (.goto (-42), 3) := by decide +kernel
theorem dX4_digest_78 : decode cX4_digest 78 = .ok (.iconst 0, 1) := by decide +kernel
theorem dX4_digest_79 : decode cX4_digest 79 = .ok (.istore_n 3, 1) := by decide +kernel
theorem dX4_digest_80 : decode cX4_digest 80 = .ok (.iload_n 3, 1) := by decide +kernel
theorem dX4_digest_81 : decode cX4_digest 81 = .ok (.iconst 3, 1) := by decide +kernel
theorem dX4_digest_82 : decode cX4_digest 82 = .ok (.if_icmp .ge 23, 3) := by decide +kernel
theorem dX4_digest_85 : decode cX4_digest 85 = .ok (.ldc2_w 253, 3) := by decide +kernel
theorem dX4_digest_88 : decode cX4_digest 88 = .ok (.lload_n 1, 1) := by decide +kernel
theorem dX4_digest_89 : decode cX4_digest 89 = .ok (.lmul, 1) := by decide +kernel
theorem dX4_digest_90 : decode cX4_digest 90 = .ok (.aload_n 0, 1) := by decide +kernel
theorem dX4_digest_91 : decode cX4_digest 91 = .ok (.getfield 48, 3) := by decide +kernel
theorem dX4_digest_94 : decode cX4_digest 94 = .ok (.iload_n 3, 1) := by decide +kernel
theorem dX4_digest_95 : decode cX4_digest 95 = .ok (.iaload, 1) := by decide +kernel
theorem dX4_digest_96 : decode cX4_digest 96 = .ok (.i2l, 1) := by decide +kernel
theorem dX4_digest_97 : decode cX4_digest 97 = .ok (.ladd, 1) := by decide +kernel
theorem dX4_digest_98 : decode cX4_digest 98 = .ok (.lstore_n 1, 1) := by decide +kernel
theorem dX4_digest_99 : decode cX4_digest 99 = .ok (.iinc 3 1, 3) := by decide +kernel
theorem dX4_digest_102 : decode cX4_digest 102 = .ok (.goto (-22), 3) := by decide +kernel
theorem dX4_digest_105 : decode cX4_digest 105 = .ok (.iconst 0, 1) := by decide +kernel
theorem dX4_digest_106 : decode cX4_digest 106 = .ok (.istore_n 3, 1) := by decide +kernel
theorem dX4_digest_107 : decode cX4_digest 107 = .ok (.iload_n 3, 1) := by decide +kernel
theorem dX4_digest_108 : decode cX4_digest 108 = .ok (.bipush 6, 2) := by decide +kernel
theorem dX4_digest_110 : decode cX4_digest 110 = .ok (.if_icmp .ge 63, 3) := by decide +kernel
theorem dX4_digest_113 : decode cX4_digest 113 = .ok (.ldc2_w 253, 3) := by decide +kernel
theorem dX4_digest_116 : decode cX4_digest 116 = .ok (.lload_n 1, 1) := by decide +kernel
theorem dX4_digest_117 : decode cX4_digest 117 = .ok (.lmul, 1) := by decide +kernel
theorem dX4_digest_118 : decode cX4_digest 118 = .ok (.aload_n 0, 1) := by decide +kernel
theorem dX4_digest_119 : decode cX4_digest 119 = .ok (.getfield 17, 3) := by decide +kernel
theorem dX4_digest_122 : decode cX4_digest 122 = .ok (.iload_n 3, 1) := by decide +kernel
theorem dX4_digest_123 : decode cX4_digest 123 = .ok (.iaload, 1) := by decide +kernel
theorem dX4_digest_124 : decode cX4_digest 124 = .ok (.i2l, 1) := by decide +kernel
theorem dX4_digest_125 : decode cX4_digest 125 = .ok (.ladd, 1) := by decide +kernel
theorem dX4_digest_126 : decode cX4_digest 126 = .ok (.lstore_n 1, 1) := by decide +kernel
theorem dX4_digest_127 : decode cX4_digest 127 = .ok (.iconst 0, 1) := by decide +kernel
theorem dX4_digest_128 : decode cX4_digest 128 = .ok (.istore 4, 2) := by decide +kernel
theorem dX4_digest_130 : decode cX4_digest 130 = .ok (.iload 4, 2) := by decide +kernel
theorem dX4_digest_132 : decode cX4_digest 132 = .ok (.aload_n 0, 1) := by decide +kernel
theorem dX4_digest_133 : decode cX4_digest 133 = .ok (.getfield 17, 3) := by decide +kernel
theorem dX4_digest_136 : decode cX4_digest 136 = .ok (.iload_n 3, 1) := by decide +kernel
theorem dX4_digest_137 : decode cX4_digest 137 = .ok (.iaload, 1) := by decide +kernel
theorem dX4_digest_138 : decode cX4_digest 138 = .ok (.if_icmp .ge 29, 3) := by decide +kernel
theorem dX4_digest_141 : decode cX4_digest 141 = .ok (.ldc2_w 253, 3) := by decide +kernel
theorem dX4_digest_144 : decode cX4_digest 144 = .ok (.lload_n 1, 1) := by decide +kernel
theorem dX4_digest_145 : decode cX4_digest 145 = .ok (.lmul, 1) := by decide +kernel
theorem dX4_digest_146 : decode cX4_digest 146 = .ok (.aload_n 0, 1) := by decide +kernel
theorem dX4_digest_147 : decode cX4_digest 147 = .ok (.getfield 20, 3) := by decide +kernel
theorem dX4_digest_150 : decode cX4_digest 150 = .ok (.bipush 40, 2) := by decide +kernel
theorem dX4_digest_152 : decode cX4_digest 152 = .ok (.iload_n 3, 1) := by decide +kernel
theorem dX4_digest_153 : decode cX4_digest 153 = .ok (.imul, 1) := by decide +kernel
theorem dX4_digest_154 : decode cX4_digest 154 = .ok (.iload 4, 2) := by decide +kernel
theorem dX4_digest_156 : decode cX4_digest 156 = .ok (.iadd, 1) := by decide +kernel
theorem dX4_digest_157 : decode cX4_digest 157 = .ok (.iaload, 1) := by decide +kernel
theorem dX4_digest_158 : decode cX4_digest 158 = .ok (.i2l, 1) := by decide +kernel
theorem dX4_digest_159 : decode cX4_digest 159 = .ok (.ladd, 1) := by decide +kernel
theorem dX4_digest_160 : decode cX4_digest 160 = .ok (.lstore_n 1, 1) := by decide +kernel
theorem dX4_digest_161 : decode cX4_digest 161 = .ok (.iinc 4 1, 3) := by decide +kernel
theorem dX4_digest_164 : decode cX4_digest 164 = .ok (.goto (-34), 3) := by decide +kernel
theorem dX4_digest_167 : decode cX4_digest 167 = .ok (.iinc 3 1, 3) := by decide +kernel
theorem dX4_digest_170 : decode cX4_digest 170 = .ok (.goto (-63), 3) := by decide +kernel
theorem dX4_digest_173 : decode cX4_digest 173 = .ok (.iconst 0, 1) := by decide +kernel
theorem dX4_digest_174 : decode cX4_digest 174 = .ok (.istore_n 3, 1) := by decide +kernel
theorem dX4_digest_175 : decode cX4_digest 175 = .ok (.iload_n 3, 1) := by decide +kernel
theorem dX4_digest_176 : decode cX4_digest 176 = .ok (.iconst 4, 1) := by decide +kernel
theorem dX4_digest_177 : decode cX4_digest 177 = .ok (.if_icmp .ge 63, 3) := by decide +kernel
theorem dX4_digest_180 : decode cX4_digest 180 = .ok (.ldc2_w 253, 3) := by decide +kernel
theorem dX4_digest_183 : decode cX4_digest 183 = .ok (.lload_n 1, 1) := by decide +kernel
theorem dX4_digest_184 : decode cX4_digest 184 = .ok (.lmul, 1) := by decide +kernel
theorem dX4_digest_185 : decode cX4_digest 185 = .ok (.aload_n 0, 1) := by decide +kernel
theorem dX4_digest_186 : decode cX4_digest 186 = .ok (.getfield 23, 3) := by decide +kernel
theorem dX4_digest_189 : decode cX4_digest 189 = .ok (.iload_n 3, 1) := by decide +kernel
theorem dX4_digest_190 : decode cX4_digest 190 = .ok (.iaload, 1) := by decide +kernel
theorem dX4_digest_191 : decode cX4_digest 191 = .ok (.i2l, 1) := by decide +kernel
theorem dX4_digest_192 : decode cX4_digest 192 = .ok (.ladd, 1) := by decide +kernel
theorem dX4_digest_193 : decode cX4_digest 193 = .ok (.lstore_n 1, 1) := by decide +kernel
theorem dX4_digest_194 : decode cX4_digest 194 = .ok (.iconst 0, 1) := by decide +kernel
theorem dX4_digest_195 : decode cX4_digest 195 = .ok (.istore 4, 2) := by decide +kernel
theorem dX4_digest_197 : decode cX4_digest 197 = .ok (.iload 4, 2) := by decide +kernel
theorem dX4_digest_199 : decode cX4_digest 199 = .ok (.aload_n 0, 1) := by decide +kernel
theorem dX4_digest_200 : decode cX4_digest 200 = .ok (.getfield 23, 3) := by decide +kernel
theorem dX4_digest_203 : decode cX4_digest 203 = .ok (.iload_n 3, 1) := by decide +kernel
theorem dX4_digest_204 : decode cX4_digest 204 = .ok (.iaload, 1) := by decide +kernel
theorem dX4_digest_205 : decode cX4_digest 205 = .ok (.if_icmp .ge 29, 3) := by decide +kernel
theorem dX4_digest_208 : decode cX4_digest 208 = .ok (.ldc2_w 253, 3) := by decide +kernel
theorem dX4_digest_211 : decode cX4_digest 211 = .ok (.lload_n 1, 1) := by decide +kernel
theorem dX4_digest_212 : decode cX4_digest 212 = .ok (.lmul, 1) := by decide +kernel
theorem dX4_digest_213 : decode cX4_digest 213 = .ok (.aload_n 0, 1) := by decide +kernel
theorem dX4_digest_214 : decode cX4_digest 214 = .ok (.getfield 26, 3) := by decide +kernel
theorem dX4_digest_217 : decode cX4_digest 217 = .ok (.bipush 60, 2) := by decide +kernel
theorem dX4_digest_219 : decode cX4_digest 219 = .ok (.iload_n 3, 1) := by decide +kernel
theorem dX4_digest_220 : decode cX4_digest 220 = .ok (.imul, 1) := by decide +kernel
theorem dX4_digest_221 : decode cX4_digest 221 = .ok (.iload 4, 2) := by decide +kernel
theorem dX4_digest_223 : decode cX4_digest 223 = .ok (.iadd, 1) := by decide +kernel
theorem dX4_digest_224 : decode cX4_digest 224 = .ok (.baload, 1) := by decide +kernel
theorem dX4_digest_225 : decode cX4_digest 225 = .ok (.i2l, 1) := by decide +kernel
theorem dX4_digest_226 : decode cX4_digest 226 = .ok (.ladd, 1) := by decide +kernel
theorem dX4_digest_227 : decode cX4_digest 227 = .ok (.lstore_n 1, 1) := by decide +kernel
theorem dX4_digest_228 : decode cX4_digest 228 = .ok (.iinc 4 1, 3) := by decide +kernel
theorem dX4_digest_231 : decode cX4_digest 231 = .ok (.goto (-34), 3) := by decide +kernel
theorem dX4_digest_234 : decode cX4_digest 234 = .ok (.iinc 3 1, 3) := by decide +kernel
theorem dX4_digest_237 : decode cX4_digest 237 = .ok (.goto (-62), 3) := by decide +kernel
theorem dX4_digest_240 : decode cX4_digest 240 = .ok (.lload_n 1, 1) := by decide +kernel
theorem dX4_digest_241 : decode cX4_digest 241 = .ok (.lreturn, 1) := by decide +kernel
theorem dJ6_numberOfTrailingZeros_0f7a4_0 : decode cJ6_numberOfTrailingZeros_0f7a4 0 = .ok (.iload_n 0, 1) := by decide +kernel
theorem dJ6_numberOfTrailingZeros_0f7a4_1 : decode cJ6_numberOfTrailingZeros_0f7a4 1 = .ok (.iconst (-1), 1) := by decide +kernel
theorem dJ6_numberOfTrailingZeros_0f7a4_2 : decode cJ6_numberOfTrailingZeros_0f7a4 2 = .ok (.ixor, 1) := by decide +kernel
theorem dJ6_numberOfTrailingZeros_0f7a4_3 : decode cJ6_numberOfTrailingZeros_0f7a4 3 = .ok (.iload_n 0, 1) := by decide +kernel
theorem dJ6_numberOfTrailingZeros_0f7a4_4 : decode cJ6_numberOfTrailingZeros_0f7a4 4 = .ok (.iconst 1, 1) := by decide +kernel
theorem dJ6_numberOfTrailingZeros_0f7a4_5 : decode cJ6_numberOfTrailingZeros_0f7a4 5 = .ok (.isub, 1) := by decide +kernel
theorem dJ6_numberOfTrailingZeros_0f7a4_6 : decode cJ6_numberOfTrailingZeros_0f7a4 6 = .ok (.iand, 1) := by decide +kernel
theorem dJ6_numberOfTrailingZeros_0f7a4_7 : decode cJ6_numberOfTrailingZeros_0f7a4 7 = .ok (.istore_n 0, 1) := by decide +kernel
theorem dJ6_numberOfTrailingZeros_0f7a4_8 : decode cJ6_numberOfTrailingZeros_0f7a4 8 = .ok (.iload_n 0, 1) := by decide +kernel
theorem dJ6_numberOfTrailingZeros_0f7a4_9 : decode cJ6_numberOfTrailingZeros_0f7a4 9 = .ok (.ifCond .gt 8, 3) := by decide +kernel
theorem dJ6_numberOfTrailingZeros_0f7a4_12 : decode cJ6_numberOfTrailingZeros_0f7a4 12 = .ok (.iload_n 0, 1) := by decide +kernel
theorem dJ6_numberOfTrailingZeros_0f7a4_13 : decode cJ6_numberOfTrailingZeros_0f7a4 13 = .ok (.bipush 32, 2) := by decide +kernel
theorem dJ6_numberOfTrailingZeros_0f7a4_15 : decode cJ6_numberOfTrailingZeros_0f7a4 15 = .ok (.iand, 1) := by decide +kernel
theorem dJ6_numberOfTrailingZeros_0f7a4_16 : decode cJ6_numberOfTrailingZeros_0f7a4 16 = .ok (.ireturn, 1) := by decide +kernel
theorem dJ6_numberOfTrailingZeros_0f7a4_17 : decode cJ6_numberOfTrailingZeros_0f7a4 17 = .ok (.iconst 1, 1) := by decide +kernel
theorem dJ6_numberOfTrailingZeros_0f7a4_18 : decode cJ6_numberOfTrailingZeros_0f7a4 18 = .ok (.istore_n 1, 1) := by decide +kernel
theorem dJ6_numberOfTrailingZeros_0f7a4_19 : decode cJ6_numberOfTrailingZeros_0f7a4 19 = .ok (.iload_n 0, 1) := by decide +kernel
theorem dJ6_numberOfTrailingZeros_0f7a4_20 : decode cJ6_numberOfTrailingZeros_0f7a4 20 = .ok (.ldc_w 264, 3) := by decide +kernel
theorem dJ6_numberOfTrailingZeros_0f7a4_23 : decode cJ6_numberOfTrailingZeros_0f7a4 23 = .ok (.if_icmp .le 11, 3) := by decide +kernel
theorem dJ6_numberOfTrailingZeros_0f7a4_26 : decode cJ6_numberOfTrailingZeros_0f7a4 26 = .ok (.iinc 1 16, 3) := by decide +kernel
theorem dJ6_numberOfTrailingZeros_0f7a4_29 : decode cJ6_numberOfTrailingZeros_0f7a4 29 = .ok (.iload_n 0, 1) := by decide +kernel
theorem dJ6_numberOfTrailingZeros_0f7a4_30 : decode cJ6_numberOfTrailingZeros_0f7a4 30 = .ok (.bipush 16, 2) := by decide +kernel
theorem dJ6_numberOfTrailingZeros_0f7a4_32 : decode cJ6_numberOfTrailingZeros_0f7a4 32 = .ok (.iushr, 1) := by decide +kernel
theorem dJ6_numberOfTrailingZeros_0f7a4_33 : decode cJ6_numberOfTrailingZeros_0f7a4 33 = .ok (.istore_n 0, 1) := by decide +kernel
theorem dJ6_numberOfTrailingZeros_0f7a4_34 : decode cJ6_numberOfTrailingZeros_0f7a4 34 = .ok (.iload_n 0, 1) := by decide +kernel
theorem dJ6_numberOfTrailingZeros_0f7a4_35 : decode cJ6_numberOfTrailingZeros_0f7a4 35 = .ok (.sipush 256, 3) := by decide +kernel
theorem dJ6_numberOfTrailingZeros_0f7a4_38 : decode cJ6_numberOfTrailingZeros_0f7a4 38 = .ok (.if_icmp .le 11, 3) := by decide +kernel
theorem dJ6_numberOfTrailingZeros_0f7a4_41 : decode cJ6_numberOfTrailingZeros_0f7a4 41 = .ok (.iinc 1 8, 3) := by decide +kernel
theorem dJ6_numberOfTrailingZeros_0f7a4_44 : decode cJ6_numberOfTrailingZeros_0f7a4 44 = .ok (.iload_n 0, 1) := by decide +kernel
theorem dJ6_numberOfTrailingZeros_0f7a4_45 : decode cJ6_numberOfTrailingZeros_0f7a4 45 = .ok (.bipush 8, 2) := by decide +kernel
theorem dJ6_numberOfTrailingZeros_0f7a4_47 : decode cJ6_numberOfTrailingZeros_0f7a4 47 = .ok (.iushr, 1) := by decide +kernel
theorem dJ6_numberOfTrailingZeros_0f7a4_48 : decode cJ6_numberOfTrailingZeros_0f7a4 48 = .ok (.istore_n 0, 1) := by decide +kernel
theorem dJ6_numberOfTrailingZeros_0f7a4_49 : decode cJ6_numberOfTrailingZeros_0f7a4 49 = .ok (.iload_n 0, 1) := by decide +kernel
theorem dJ6_numberOfTrailingZeros_0f7a4_50 : decode cJ6_numberOfTrailingZeros_0f7a4 50 = .ok (.bipush 16, 2) := by decide +kernel
theorem dJ6_numberOfTrailingZeros_0f7a4_52 : decode cJ6_numberOfTrailingZeros_0f7a4 52 = .ok (.if_icmp .le 10, 3) := by decide +kernel
theorem dJ6_numberOfTrailingZeros_0f7a4_55 : decode cJ6_numberOfTrailingZeros_0f7a4 55 = .ok (.iinc 1 4, 3) := by decide +kernel
theorem dJ6_numberOfTrailingZeros_0f7a4_58 : decode cJ6_numberOfTrailingZeros_0f7a4 58 = .ok (.iload_n 0, 1) := by decide +kernel
theorem dJ6_numberOfTrailingZeros_0f7a4_59 : decode cJ6_numberOfTrailingZeros_0f7a4 59 = .ok (.iconst 4, 1) := by decide +kernel
theorem dJ6_numberOfTrailingZeros_0f7a4_60 : decode cJ6_numberOfTrailingZeros_0f7a4 60 = .ok (.iushr, 1) := by decide +kernel
theorem dJ6_numberOfTrailingZeros_0f7a4_61 : decode cJ6_numberOfTrailingZeros_0f7a4 61 = .ok (.istore_n 0, 1) := by decide +kernel
theorem dJ6_numberOfTrailingZeros_0f7a4_62 : decode cJ6_numberOfTrailingZeros_0f7a4 62 = .ok (.iload_n 0, 1) := by decide +kernel
theorem dJ6_numberOfTrailingZeros_0f7a4_63 : decode cJ6_numberOfTrailingZeros_0f7a4 63 = .ok (.iconst 4, 1) := by decide +kernel
theorem dJ6_numberOfTrailingZeros_0f7a4_64 : decode cJ6_numberOfTrailingZeros_0f7a4 64 = .ok (.if_icmp .le 10, 3) := by decide +kernel
theorem dJ6_numberOfTrailingZeros_0f7a4_67 : decode cJ6_numberOfTrailingZeros_0f7a4 67 = .ok (.iinc 1 2, 3) := by decide +kernel
