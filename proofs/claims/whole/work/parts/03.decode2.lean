theorem dX3_test_12 : decode cX3_test 12 = .ok (.ireturn, 1) := by decide +kernel
theorem dX3_test_13 : decode cX3_test 13 = .ok (.aload_n 0, 1) := by decide +kernel
theorem dX3_test_14 : decode cX3_test 14 = .ok (.iload_n 1, 1) := by decide +kernel
theorem dX3_test_15 : decode cX3_test 15 = .ok (.iload_n 2, 1) := by decide +kernel
theorem dX3_test_16 : decode cX3_test 16 = .ok (.invokevirtual 256, 3) := by decide +kernel
theorem dX3_test_19 : decode cX3_test 19 = .ok (.istore 4, 2) := by decide +kernel
theorem dX3_test_21 : decode cX3_test 21 = .ok (.iload 4, 2) := by decide +kernel
theorem dX3_test_23 : decode cX3_test 23 = .ok (.ifCond .ne 6, 3) := by decide +kernel
theorem dX3_test_26 : decode cX3_test 26 = .ok (.bipush (-9), 2) := by decide +kernel
theorem dX3_test_28 : decode cX3_test 28 = .ok (.ireturn, 1) := by decide +kernel
theorem dX3_test_29 : decode cX3_test 29 = .ok (.iconst 0, 1) := by decide +kernel
theorem dX3_test_30 : decode cX3_test 30 = .ok (.istore 5, 2) := by decide +kernel
theorem dX3_test_32 : decode cX3_test 32 = .ok (.bipush 7, 2) := by decide +kernel
theorem dX3_test_34 : decode cX3_test 34 = .ok (.istore 6, 2) := by decide +kernel
theorem dX3_test_36 : decode cX3_test 36 = .ok (.iconst 0, 1) := by decide +kernel
theorem dX3_test_37 : decode cX3_test 37 = .ok (.istore 7, 2) := by decide +kernel
theorem dX3_test_39 : decode cX3_test 39 = .ok (.iload 7, 2) := by decide +kernel
theorem dX3_test_41 : decode cX3_test 41 = .ok (.iconst 1, 1) := by decide +kernel
theorem dX3_test_42 : decode cX3_test 42 = .ok (.aload_n 0, 1) := by decide +kernel
theorem dX3_test_43 : decode cX3_test 43 = .ok (.getfield 24, 3) := by decide +kernel
theorem dX3_test_46 : decode cX3_test 46 = .ok (.getfield 126, 3) := by decide +kernel
theorem dX3_test_49 : decode cX3_test 49 = .ok (.ishl, 1) := by decide +kernel
theorem dX3_test_50 : decode cX3_test 50 = .ok (.if_icmp .ge 34, 3) := by decide +kernel
theorem dX3_test_53 : decode cX3_test 53 = .ok (.iload 4, 2) := by decide +kernel
theorem dX3_test_55 : decode cX3_test 55 = .ok (.iload_n 1, 1) := by decide +kernel
theorem dX3_test_56 : decode cX3_test 56 = .ok (.iload 7, 2) := by decide +kernel
theorem dX3_test_58 : decode cX3_test 58 = .ok (.invokestatic 259, 3) := by decide +kernel
theorem dX3_test_61 : decode cX3_test 61 = .ok (.istore 8, 2) := by decide +kernel
theorem dX3_test_63 : decode cX3_test 63 = .ok (.iload 8, 2) := by decide +kernel
theorem dX3_test_65 : decode cX3_test 65 = .ok (.iload 6, 2) := by decide +kernel
theorem dX3_test_67 : decode cX3_test 67 = .ok (.if_icmp .ge 11, 3) := by decide +kernel
theorem dX3_test_70 : decode cX3_test 70 = .ok (.iload 7, 2) := by decide +kernel
theorem dX3_test_72 : decode cX3_test 72 = .ok (.istore 5, 2) := by decide +kernel
theorem dX3_test_74 : decode cX3_test 74 = .ok (.iload 8, 2) := by decide +kernel
theorem dX3_test_76 : decode cX3_test 76 = .ok (.istore 6, 2) := by decide +kernel
theorem dX3_test_78 : decode cX3_test 78 = .ok (.iinc 7 1, 3) := by decide +kernel
theorem dX3_test_81 : decode cX3_test 81 = .ok (.goto (-42), 3) := by decide +kernel
theorem dX3_test_84 : decode cX3_test 84 = .ok (.aload_n 0, 1) := by decide +kernel
theorem dX3_test_85 : decode cX3_test 85 = .ok (.iload 5, 2) := by decide +kernel
theorem dX3_test_87 : decode cX3_test 87 = .ok (.iload 6, 2) := by decide +kernel
theorem dX3_test_89 : decode cX3_test 89 = .ok (.invokevirtual 250, 3) := by decide +kernel
theorem dX3_test_92 : decode cX3_test 92 = .ok (.ireturn, 1) := by decide +kernel
theorem dX3_duel_0 : decode cX3_duel 0 = .ok (.aload_n 0, 1) := by decide +kernel
theorem dX3_duel_1 : decode cX3_duel 1 = .ok (.getfield 24, 3) := by decide +kernel
theorem dX3_duel_4 : decode cX3_duel 4 = .ok (.getfield 126, 3) := by decide +kernel
theorem dX3_duel_7 : decode cX3_duel 7 = .ok (.ifCond .ne 6, 3) := by decide +kernel
theorem dX3_duel_10 : decode cX3_duel 10 = .ok (.bipush (-4), 2) := by decide +kernel
theorem dX3_duel_12 : decode cX3_duel 12 = .ok (.ireturn, 1) := by decide +kernel
theorem dX3_duel_13 : decode cX3_duel 13 = .ok (.aload_n 0, 1) := by decide +kernel
theorem dX3_duel_14 : decode cX3_duel 14 = .ok (.getfield 31, 3) := by decide +kernel
theorem dX3_duel_17 : decode cX3_duel 17 = .ok (.aload_n 0, 1) := by decide +kernel
theorem dX3_duel_18 : decode cX3_duel 18 = .ok (.getfield 24, 3) := by decide +kernel
theorem dX3_duel_21 : decode cX3_duel 21 = .ok (.aload_n 0, 1) := by decide +kernel
theorem dX3_duel_22 : decode cX3_duel 22 = .ok (.getfield 24, 3) := by decide +kernel
theorem dX3_duel_25 : decode cX3_duel 25 = .ok (.getfield 203, 3) := by decide +kernel
theorem dX3_duel_28 : decode cX3_duel 28 = .ok (.invokevirtual 206, 3) := by decide +kernel
theorem dX3_duel_31 : decode cX3_duel 31 = .ok (.aload_n 0, 1) := by decide +kernel
theorem dX3_duel_32 : decode cX3_duel 32 = .ok (.aload_n 0, 1) := by decide +kernel
theorem dX3_duel_33 : decode cX3_duel 33 = .ok (.getfield 31, 3) := by decide +kernel
theorem dX3_duel_36 : decode cX3_duel 36 = .ok (.invokevirtual 262, 3) := by decide +kernel
theorem dX3_duel_39 : decode cX3_duel 39 = .ok (.putfield 57, 3) := by decide +kernel
theorem dX3_duel_42 : decode cX3_duel 42 = .ok (.aload_n 0, 1) := by decide +kernel
theorem dX3_duel_43 : decode cX3_duel 43 = .ok (.getfield 57, 3) := by decide +kernel
theorem dX3_duel_46 : decode cX3_duel 46 = .ok (.bipush (-9), 2) := by decide +kernel
theorem dX3_duel_48 : decode cX3_duel 48 = .ok (.if_icmp .ne 7, 3) := by decide +kernel
theorem dX3_duel_51 : decode cX3_duel 51 = .ok (.iconst 0, 1) := by decide +kernel
theorem dX3_duel_52 : decode cX3_duel 52 = .ok (.goto 4, 3) := by decide +kernel
theorem dX3_duel_55 : decode cX3_duel 55 = .ok (.iconst 1, 1) := by decide +kernel
theorem dX3_duel_56 : decode cX3_duel 56 = .ok (.ireturn, 1) := by decide +kernel
theorem dX3_odds_0 : decode cX3_odds 0 = .ok (.iload_n 1, 1) := by decide +kernel
theorem dX3_odds_1 : decode cX3_odds 1 = .ok (.ifCond .lt 9, 3) := by decide +kernel
theorem dX3_odds_4 : decode cX3_odds 4 = .ok (.iload_n 1, 1) := by decide +kernel
theorem dX3_odds_5 : decode cX3_odds 5 = .ok (.bipush 12, 2) := by decide +kernel
theorem dX3_odds_7 : decode cX3_odds 7 = .ok (.if_icmp .le 5, 3) := by decide +kernel
theorem dX3_odds_10 : decode cX3_odds 10 = .ok (.iconst (-1), 1) := by decide +kernel
theorem dX3_odds_11 : decode cX3_odds 11 = .ok (.ireturn, 1) := by decide +kernel
theorem dX3_odds_12 : decode cX3_odds 12 = .ok (.aload_n 0, 1) := by decide +kernel
theorem dX3_odds_13 : decode cX3_odds 13 = .ok (.getfield 24, 3) := by decide +kernel
theorem dX3_odds_16 : decode cX3_odds 16 = .ok (.getfield 126, 3) := by decide +kernel
theorem dX3_odds_19 : decode cX3_odds 19 = .ok (.ifCond .ne 6, 3) := by decide +kernel
theorem dX3_odds_22 : decode cX3_odds 22 = .ok (.bipush (-4), 2) := by decide +kernel
theorem dX3_odds_24 : decode cX3_odds 24 = .ok (.ireturn, 1) := by decide +kernel
theorem dX3_odds_25 : decode cX3_odds 25 = .ok (.aload_n 0, 1) := by decide +kernel
theorem dX3_odds_26 : decode cX3_odds 26 = .ok (.getfield 31, 3) := by decide +kernel
theorem dX3_odds_29 : decode cX3_odds 29 = .ok (.aload_n 0, 1) := by decide +kernel
theorem dX3_odds_30 : decode cX3_odds 30 = .ok (.getfield 24, 3) := by decide +kernel
theorem dX3_odds_33 : decode cX3_odds 33 = .ok (.aload_n 0, 1) := by decide +kernel
theorem dX3_odds_34 : decode cX3_odds 34 = .ok (.getfield 24, 3) := by decide +kernel
theorem dX3_odds_37 : decode cX3_odds 37 = .ok (.getfield 203, 3) := by decide +kernel
theorem dX3_odds_40 : decode cX3_odds 40 = .ok (.invokevirtual 206, 3) := by decide +kernel
theorem dX3_odds_43 : decode cX3_odds 43 = .ok (.lconst 0, 1) := by decide +kernel
theorem dX3_odds_44 : decode cX3_odds 44 = .ok (.lstore_n 2, 1) := by decide +kernel
theorem dX3_odds_45 : decode cX3_odds 45 = .ok (.iconst 0, 1) := by decide +kernel
theorem dX3_odds_46 : decode cX3_odds 46 = .ok (.istore 4, 2) := by decide +kernel
theorem dX3_odds_48 : decode cX3_odds 48 = .ok (.iload 4, 2) := by decide +kernel
theorem dX3_odds_50 : decode cX3_odds 50 = .ok (.aload_n 0, 1) := by decide +kernel
theorem dX3_odds_51 : decode cX3_odds 51 = .ok (.getfield 31, 3) := by decide +kernel
theorem dX3_odds_54 : decode cX3_odds 54 = .ok (.getfield 216, 3) := by decide +kernel
theorem dX3_odds_57 : decode cX3_odds 57 = .ok (.if_icmp .gt 31, 3) := by decide +kernel
theorem dX3_odds_60 : decode cX3_odds 60 = .ok (.aload_n 0, 1) := by decide +kernel
theorem dX3_odds_61 : decode cX3_odds 61 = .ok (.getfield 31, 3) := by decide +kernel
theorem dX3_odds_64 : decode cX3_odds 64 = .ok (.iload 4, 2) := by decide +kernel
theorem dX3_odds_66 : decode cX3_odds 66 = .ok (.invokevirtual 224, 3) := by decide +kernel
theorem dX3_odds_69 : decode cX3_odds 69 = .ok (.ifCond .eq 13, 3) := by decide +kernel
theorem dX3_odds_72 : decode cX3_odds 72 = .ok (.lload_n 2, 1) := by decide +kernel
theorem dX3_odds_73 : decode cX3_odds 73 = .ok (.aload_n 0, 1) := by decide +kernel
theorem dX3_odds_74 : decode cX3_odds 74 = .ok (.iload 4, 2) := by decide +kernel
theorem dX3_odds_76 : decode cX3_odds 76 = .ok (.iload_n 1, 1) := by decide +kernel
theorem dX3_odds_77 : decode cX3_odds 77 = .ok (.invokevirtual 265, 3) := by decide +kernel
theorem dX3_odds_80 : decode cX3_odds 80 = .ok (.ladd, 1) := by decide +kernel
theorem dX3_odds_81 : decode cX3_odds 81 = .ok (.lstore_n 2, 1) := by decide +kernel
theorem dX3_odds_82 : decode cX3_odds 82 = .ok (.iinc 4 1, 3) := by decide +kernel
theorem dX3_odds_85 : decode cX3_odds 85 = .ok (.goto (-37), 3) := by decide +kernel
theorem dX3_odds_88 : decode cX3_odds 88 = .ok (.aload_n 0, 1) := by decide +kernel
theorem dX3_odds_89 : decode cX3_odds 89 = .ok (.lload_n 2, 1) := by decide +kernel
theorem dX3_odds_90 : decode cX3_odds 90 = .ok (.invokevirtual 269, 3) := by decide +kernel
theorem dX3_odds_93 : decode cX3_odds 93 = .ok (.ireturn, 1) := by decide +kernel
theorem dX3_mid_0 : decode cX3_mid 0 = .ok (.iload_n 1, 1) := by decide +kernel
theorem dX3_mid_1 : decode cX3_mid 1 = .ok (.ifCond .lt 9, 3) := by decide +kernel
theorem dX3_mid_4 : decode cX3_mid 4 = .ok (.iload_n 1, 1) := by decide +kernel
theorem dX3_mid_5 : decode cX3_mid 5 = .ok (.bipush 12, 2) := by decide +kernel
theorem dX3_mid_7 : decode cX3_mid 7 = .ok (.if_icmp .le 5, 3) := by decide +kernel
theorem dX3_mid_10 : decode cX3_mid 10 = .ok (.iconst (-1), 1) := by decide +kernel
theorem dX3_mid_11 : decode cX3_mid 11 = .ok (.ireturn, 1) := by decide +kernel
theorem dX3_mid_12 : decode cX3_mid 12 = .ok (.aload_n 0, 1) := by decide +kernel
theorem dX3_mid_13 : decode cX3_mid 13 = .ok (.getfield 24, 3) := by decide +kernel
theorem dX3_mid_16 : decode cX3_mid 16 = .ok (.getfield 126, 3) := by decide +kernel
theorem dX3_mid_19 : decode cX3_mid 19 = .ok (.ifCond .ne 6, 3) := by decide +kernel
theorem dX3_mid_22 : decode cX3_mid 22 = .ok (.bipush (-4), 2) := by decide +kernel
theorem dX3_mid_24 : decode cX3_mid 24 = .ok (.ireturn, 1) := by decide +kernel
theorem dX3_mid_25 : decode cX3_mid 25 = .ok (.aload_n 0, 1) := by decide +kernel
theorem dX3_mid_26 : decode cX3_mid 26 = .ok (.getfield 31, 3) := by decide +kernel
theorem dX3_mid_29 : decode cX3_mid 29 = .ok (.aload_n 0, 1) := by decide +kernel
theorem dX3_mid_30 : decode cX3_mid 30 = .ok (.getfield 24, 3) := by decide +kernel
theorem dX3_mid_33 : decode cX3_mid 33 = .ok (.aload_n 0, 1) := by decide +kernel
theorem dX3_mid_34 : decode cX3_mid 34 = .ok (.getfield 24, 3) := by decide +kernel
theorem dX3_mid_37 : decode cX3_mid 37 = .ok (.getfield 203, 3) := by decide +kernel
theorem dX3_mid_40 : decode cX3_mid 40 = .ok (.invokevirtual 206, 3) := by decide +kernel
theorem dX3_mid_43 : decode cX3_mid 43 = .ok (.aload_n 0, 1) := by decide +kernel
theorem dX3_mid_44 : decode cX3_mid 44 = .ok (.getfield 31, 3) := by decide +kernel
theorem dX3_mid_47 : decode cX3_mid 47 = .ok (.invokevirtual 210, 3) := by decide +kernel
theorem dX3_mid_50 : decode cX3_mid 50 = .ok (.lconst 0, 1) := by decide +kernel
theorem dX3_mid_51 : decode cX3_mid 51 = .ok (.lstore_n 2, 1) := by decide +kernel
theorem dX3_mid_52 : decode cX3_mid 52 = .ok (.iconst 0, 1) := by decide +kernel
theorem dX3_mid_53 : decode cX3_mid 53 = .ok (.istore 4, 2) := by decide +kernel
theorem dX3_mid_55 : decode cX3_mid 55 = .ok (.iload 4, 2) := by decide +kernel
theorem dX3_mid_57 : decode cX3_mid 57 = .ok (.aload_n 0, 1) := by decide +kernel
theorem dX3_mid_58 : decode cX3_mid 58 = .ok (.getfield 31, 3) := by decide +kernel
theorem dX3_mid_61 : decode cX3_mid 61 = .ok (.getfield 216, 3) := by decide +kernel
theorem dX3_mid_64 : decode cX3_mid 64 = .ok (.if_icmp .gt 43, 3) := by decide +kernel
theorem dX3_mid_67 : decode cX3_mid 67 = .ok (.aload_n 0, 1) := by decide +kernel
theorem dX3_mid_68 : decode cX3_mid 68 = .ok (.getfield 31, 3) := by decide +kernel
theorem dX3_mid_71 : decode cX3_mid 71 = .ok (.iload 4, 2) := by decide +kernel
theorem dX3_mid_73 : decode cX3_mid 73 = .ok (.invokevirtual 273, 3) := by decide +kernel
theorem dX3_mid_76 : decode cX3_mid 76 = .ok (.ifCond .eq 25, 3) := by decide +kernel
theorem dX3_mid_79 : decode cX3_mid 79 = .ok (.lload_n 2, 1) := by decide +kernel
theorem dX3_mid_80 : decode cX3_mid 80 = .ok (.aload_n 0, 1) := by decide +kernel
theorem dX3_mid_81 : decode cX3_mid 81 = .ok (.iload 4, 2) := by decide +kernel
theorem dX3_mid_83 : decode cX3_mid 83 = .ok (.iload_n 1, 1) := by decide +kernel
theorem dX3_mid_84 : decode cX3_mid 84 = .ok (.invokevirtual 265, 3) := by decide +kernel
theorem dX3_mid_87 : decode cX3_mid 87 = .ok (.aload_n 0, 1) := by decide +kernel
theorem dX3_mid_88 : decode cX3_mid 88 = .ok (.getfield 31, 3) := by decide +kernel
theorem dX3_mid_91 : decode cX3_mid 91 = .ok (.getfield 213, 3) := by decide +kernel
theorem dX3_mid_94 : decode cX3_mid 94 = .ok (.iload 4, 2) := by decide +kernel
theorem dX3_mid_96 : decode cX3_mid 96 = .ok (.iaload, 1) := by decide +kernel
theorem dX3_mid_97 : decode cX3_mid 97 = .ok (.i2l, 1) := by decide +kernel
theorem dX3_mid_98 : decode cX3_mid 98 = .ok (.lmul, 1) := by decide +kernel
theorem dX3_mid_99 : decode cX3_mid 99 = .ok (.ladd, 1) := by decide +kernel
theorem dX3_mid_100 : decode cX3_mid 100 = .ok (.lstore_n 2, 1) := by decide +kernel
theorem dX3_mid_101 : decode cX3_mid 101 = .ok (.iinc 4 1, 3) := by decide +kernel
theorem dX3_mid_104 : decode cX3_mid 104 = .ok (.goto (-49), 3) := by decide +kernel
theorem dX3_mid_107 : decode cX3_mid 107 = .ok (.aload_n 0, 1) := by decide +kernel
theorem dX3_mid_108 : decode cX3_mid 108 = .ok (.lload_n 2, 1) := by decide +kernel
theorem dX3_mid_109 : decode cX3_mid 109 = .ok (.invokevirtual 269, 3) := by decide +kernel
theorem dX3_mid_112 : decode cX3_mid 112 = .ok (.ireturn, 1) := by decide +kernel
theorem dX3_lots_0 : decode cX3_lots 0 = .ok (.iload_n 1, 1) := by decide +kernel
theorem dX3_lots_1 : decode cX3_lots 1 = .ok (.iconst 1, 1) := by decide +kernel
theorem dX3_lots_2 : decode cX3_lots 2 = .ok (.if_icmp .lt 23, 3) := by decide +kernel
theorem dX3_lots_5 : decode cX3_lots 5 = .ok (.iload_n 1, 1) := by decide +kernel
theorem dX3_lots_6 : decode cX3_lots 6 = .ok (.bipush 20, 2) := by decide +kernel
theorem dX3_lots_8 : decode cX3_lots 8 = .ok (.if_icmp .gt 17, 3) := by decide +kernel
theorem dX3_lots_11 : decode cX3_lots 11 = .ok (.iload_n 2, 1) := by decide +kernel
theorem dX3_lots_12 : decode cX3_lots 12 = .ok (.iconst 1, 1) := by decide +kernel
theorem dX3_lots_13 : decode cX3_lots 13 = .ok (.if_icmp .lt 12, 3) := by decide +kernel
theorem dX3_lots_16 : decode cX3_lots 16 = .ok (.iload_n 2, 1) := by decide +kernel
theorem dX3_lots_17 : decode cX3_lots 17 = .ok (.i2l, 1) := by decide +kernel
theorem dX3_lots_18 : decode cX3_lots 18 = .ok (.ldc2_w 276, 3) := by decide +kernel
theorem dX3_lots_21 : decode cX3_lots 21 = .ok (.lcmp, 1) := by decide +kernel
theorem dX3_lots_22 : decode cX3_lots 22 = .ok (.ifCond .lt 5, 3) := by decide +kernel
theorem dX3_lots_25 : decode cX3_lots 25 = .ok (.iconst (-1), 1) := by decide +kernel
theorem dX3_lots_26 : decode cX3_lots 26 = .ok (.ireturn, 1) := by decide +kernel
theorem dX3_lots_27 : decode cX3_lots 27 = .ok (.aload_n 0, 1) := by decide +kernel
theorem dX3_lots_28 : decode cX3_lots 28 = .ok (.getfield 24, 3) := by decide +kernel
theorem dX3_lots_31 : decode cX3_lots 31 = .ok (.getfield 126, 3) := by decide +kernel
theorem dX3_lots_34 : decode cX3_lots 34 = .ok (.ifCond .ne 6, 3) := by decide +kernel
theorem dX3_lots_37 : decode cX3_lots 37 = .ok (.bipush (-4), 2) := by decide +kernel
theorem dX3_lots_39 : decode cX3_lots 39 = .ok (.ireturn, 1) := by decide +kernel
theorem dX3_lots_40 : decode cX3_lots 40 = .ok (.aload_n 0, 1) := by decide +kernel
theorem dX3_lots_41 : decode cX3_lots 41 = .ok (.getfield 24, 3) := by decide +kernel
theorem dX3_lots_44 : decode cX3_lots 44 = .ok (.invokevirtual 166, 3) := by decide +kernel
theorem dX3_lots_47 : decode cX3_lots 47 = .ok (.iload_n 1, 1) := by decide +kernel
theorem dX3_lots_48 : decode cX3_lots 48 = .ok (.if_icmp .ge 6, 3) := by decide +kernel
theorem dX3_lots_51 : decode cX3_lots 51 = .ok (.bipush (-2), 2) := by decide +kernel
theorem dX3_lots_53 : decode cX3_lots 53 = .ok (.ireturn, 1) := by decide +kernel
theorem dX3_lots_54 : decode cX3_lots 54 = .ok (.iload_n 2, 1) := by decide +kernel
theorem dX3_lots_55 : decode cX3_lots 55 = .ok (.i2l, 1) := by decide +kernel
theorem dX3_lots_56 : decode cX3_lots 56 = .ok (.lstore_n 3, 1) := by decide +kernel
theorem dX3_lots_57 : decode cX3_lots 57 = .ok (.iconst 0, 1) := by decide +kernel
theorem dX3_lots_58 : decode cX3_lots 58 = .ok (.istore 5, 2) := by decide +kernel
theorem dX3_lots_60 : decode cX3_lots 60 = .ok (.iload 5, 2) := by decide +kernel
theorem dX3_lots_62 : decode cX3_lots 62 = .ok (.iload_n 1, 1) := by decide +kernel
theorem dX3_lots_63 : decode cX3_lots 63 = .ok (.if_icmp .ge 25, 3) := by decide +kernel
theorem dX3_lots_66 : decode cX3_lots 66 = .ok (.lload_n 3, 1) := by decide +kernel
theorem dX3_lots_67 : decode cX3_lots 67 = .ok (.ldc2_w 278, 3) := by decide +kernel
theorem dX3_lots_70 : decode cX3_lots 70 = .ok (.lmul, 1) := by decide +kernel
theorem dX3_lots_71 : decode cX3_lots 71 = .ok (.ldc2_w 276, 3) := by decide +kernel
theorem dX3_lots_74 : decode cX3_lots 74 = .ok (.lrem, 1) := by decide +kernel
theorem dX3_lots_75 : decode cX3_lots 75 = .ok (.lstore_n 3, 1) := by decide +kernel
theorem dX3_lots_76 : decode cX3_lots 76 = .ok (.aload_n 0, 1) := by decide +kernel
theorem dX3_lots_77 : decode cX3_lots 77 = .ok (.lload_n 3, 1) := by decide +kernel
theorem dX3_lots_78 : decode cX3_lots 78 = .ok (.l2i, 1) := by decide +kernel
theorem dX3_lots_79 : decode cX3_lots 79 = .ok (.invokevirtual 280, 3) := by decide +kernel
theorem dX3_lots_82 : decode cX3_lots 82 = .ok (.iinc 5 1, 3) := by decide +kernel
theorem dX3_lots_85 : decode cX3_lots 85 = .ok (.goto (-25), 3) := by decide +kernel
theorem dX3_lots_88 : decode cX3_lots 88 = .ok (.aload_n 0, 1) := by decide +kernel
theorem dX3_lots_89 : decode cX3_lots 89 = .ok (.getfield 24, 3) := by decide +kernel
theorem dX3_lots_92 : decode cX3_lots 92 = .ok (.getfield 185, 3) := by decide +kernel
theorem dX3_lots_95 : decode cX3_lots 95 = .ok (.invokestatic 140, 3) := by decide +kernel
theorem dX3_lots_98 : decode cX3_lots 98 = .ok (.ireturn, 1) := by decide +kernel
theorem dX3_asked_0 : decode cX3_asked 0 = .ok (.aload_n 0, 1) := by decide +kernel
theorem dX3_asked_1 : decode cX3_asked 1 = .ok (.getfield 57, 3) := by decide +kernel
theorem dX3_asked_4 : decode cX3_asked 4 = .ok (.ireturn, 1) := by decide +kernel
theorem dX3_upper_0 : decode cX3_upper 0 = .ok (.aload_n 0, 1) := by decide +kernel
theorem dX3_upper_1 : decode cX3_upper 1 = .ok (.getfield 60, 3) := by decide +kernel
theorem dX3_upper_4 : decode cX3_upper 4 = .ok (.lreturn, 1) := by decide +kernel
theorem dX3_lower_0 : decode cX3_lower 0 = .ok (.aload_n 0, 1) := by decide +kernel
theorem dX3_lower_1 : decode cX3_lower 1 = .ok (.getfield 64, 3) := by decide +kernel
theorem dX3_lower_4 : decode cX3_lower 4 = .ok (.lreturn, 1) := by decide +kernel
theorem dX3_count_0 : decode cX3_count 0 = .ok (.iload_n 1, 1) := by decide +kernel
theorem dX3_count_1 : decode cX3_count 1 = .ok (.ifCond .lt 9, 3) := by decide +kernel
theorem dX3_count_4 : decode cX3_count 4 = .ok (.iload_n 1, 1) := by decide +kernel
theorem dX3_count_5 : decode cX3_count 5 = .ok (.bipush 12, 2) := by decide +kernel
theorem dX3_count_7 : decode cX3_count 7 = .ok (.if_icmp .lt 7, 3) := by decide +kernel
theorem dX3_count_10 : decode cX3_count 10 = .ok (.iconst (-1), 1) := by decide +kernel
theorem dX3_count_11 : decode cX3_count 11 = .ok (.goto 8, 3) := by decide +kernel
theorem dX3_count_14 : decode cX3_count 14 = .ok (.aload_n 0, 1) := by decide +kernel
theorem dX3_count_15 : decode cX3_count 15 = .ok (.iload_n 1, 1) := by decide +kernel
theorem dX3_count_16 : decode cX3_count 16 = .ok (.invokevirtual 284, 3) := by decide +kernel
theorem dX3_count_19 : decode cX3_count 19 = .ok (.ireturn, 1) := by decide +kernel
theorem dX3_finding_0 : decode cX3_finding 0 = .ok (.aload_n 0, 1) := by decide +kernel
theorem dX3_finding_1 : decode cX3_finding 1 = .ok (.getfield 53, 3) := by decide +kernel
theorem dX3_finding_4 : decode cX3_finding 4 = .ok (.ireturn, 1) := by decide +kernel
theorem dX3_findings_0 : decode cX3_findings 0 = .ok (.iload_n 1, 1) := by decide +kernel
theorem dX3_findings_1 : decode cX3_findings 1 = .ok (.iconst 1, 1) := by decide +kernel
theorem dX3_findings_2 : decode cX3_findings 2 = .ok (.if_icmp .lt 8, 3) := by decide +kernel
theorem dX3_findings_5 : decode cX3_findings 5 = .ok (.iload_n 1, 1) := by decide +kernel
theorem dX3_findings_6 : decode cX3_findings 6 = .ok (.iconst 5, 1) := by decide +kernel
theorem dX3_findings_7 : decode cX3_findings 7 = .ok (.if_icmp .le 7, 3) := by decide +kernel
theorem dX3_findings_10 : decode cX3_findings 10 = .ok (.iconst (-1), 1) := by decide +kernel
theorem dX3_findings_11 : decode cX3_findings 11 = .ok (.goto 9, 3) := by decide +kernel
theorem dX3_findings_14 : decode cX3_findings 14 = .ok (.aload_n 0, 1) := by decide +kernel
theorem dX3_findings_15 : decode cX3_findings 15 = .ok (.getfield 50, 3) := by decide +kernel
theorem dX3_findings_18 : decode cX3_findings 18 = .ok (.iload_n 1, 1) := by decide +kernel
theorem dX3_findings_19 : decode cX3_findings 19 = .ok (.iaload, 1) := by decide +kernel
theorem dX3_findings_20 : decode cX3_findings 20 = .ok (.ireturn, 1) := by decide +kernel
theorem dX3_digest_0 : decode cX3_digest 0 = .ok (.ldc2_w 287, 3) := by decide +kernel
theorem dX3_digest_3 : decode cX3_digest 3 = .ok (.lstore_n 1, 1) := by decide +kernel
theorem dX3_digest_4 : decode cX3_digest 4 = .ok (.iconst 0, 1) := by decide +kernel
theorem dX3_digest_5 : decode cX3_digest 5 = .ok (.istore_n 3, 1) := by decide +kernel
theorem dX3_digest_6 : decode cX3_digest 6 = .ok (.iload_n 3, 1) := by decide +kernel
theorem dX3_digest_7 : decode cX3_digest 7 = .ok (.bipush 12, 2) := by decide +kernel
theorem dX3_digest_9 : decode cX3_digest 9 = .ok (.if_icmp .ge 22, 3) := by decide +kernel
theorem dX3_digest_12 : decode cX3_digest 12 = .ok (.ldc2_w 289, 3) := by decide +kernel
theorem dX3_digest_15 : decode cX3_digest 15 = .ok (.lload_n 1, 1) := by decide +kernel
theorem dX3_digest_16 : decode cX3_digest 16 = .ok (.lmul, 1) := by decide +kernel
theorem dX3_digest_17 : decode cX3_digest 17 = .ok (.aload_n 0, 1) := by decide +kernel
theorem dX3_digest_18 : decode cX3_digest 18 = .ok (.iload_n 3, 1) := by decide +kernel
theorem dX3_digest_19 : decode cX3_digest 19 = .ok (.invokevirtual 284, 3) := by decide +kernel
theorem dX3_digest_22 : decode cX3_digest 22 = .ok (.i2l, 1) := by decide +kernel
theorem dX3_digest_23 : decode cX3_digest 23 = .ok (.ladd, 1) := by decide +kernel
theorem dX3_digest_24 : decode cX3_digest 24 = .ok (.lstore_n 1, 1) := by decide +kernel
theorem dX3_digest_25 : decode cX3_digest 25 = .ok (.iinc 3 1, 3) := by decide +kernel
theorem dX3_digest_28 : decode cX3_digest 28 = .ok (.goto (-22), 3) := by decide +kernel
theorem dX3_digest_31 : decode cX3_digest 31 = .ok (.iconst 0, 1) := by decide +kernel
theorem dX3_digest_32 : decode cX3_digest 32 = .ok (.istore_n 3, 1) := by decide +kernel
theorem dX3_digest_33 : decode cX3_digest 33 = .ok (.iload_n 3, 1) := by decide +kernel
theorem dX3_digest_34 : decode cX3_digest 34 = .ok (.aload_n 0, 1) := by decide +kernel
theorem dX3_digest_35 : decode cX3_digest 35 = .ok (.getfield 24, 3) := by decide +kernel
theorem dX3_digest_38 : decode cX3_digest 38 = .ok (.getfield 126, 3) := by decide +kernel
theorem dX3_digest_41 : decode cX3_digest 41 = .ok (.if_icmp .ge 40, 3) := by decide +kernel
theorem dX3_digest_44 : decode cX3_digest 44 = .ok (.iconst 0, 1) := by decide +kernel
theorem dX3_digest_45 : decode cX3_digest 45 = .ok (.istore 4, 2) := by decide +kernel
theorem dX3_digest_47 : decode cX3_digest 47 = .ok (.iload 4, 2) := by decide +kernel
theorem dX3_digest_49 : decode cX3_digest 49 = .ok (.bipush 7, 2) := by decide +kernel
theorem dX3_digest_51 : decode cX3_digest 51 = .ok (.if_icmp .ge 24, 3) := by decide +kernel
theorem dX3_digest_54 : decode cX3_digest 54 = .ok (.ldc2_w 289, 3) := by decide +kernel
theorem dX3_digest_57 : decode cX3_digest 57 = .ok (.lload_n 1, 1) := by decide +kernel
theorem dX3_digest_58 : decode cX3_digest 58 = .ok (.lmul, 1) := by decide +kernel
theorem dX3_digest_59 : decode cX3_digest 59 = .ok (.aload_n 0, 1) := by decide +kernel
theorem dX3_digest_60 : decode cX3_digest 60 = .ok (.iload_n 3, 1) := by decide +kernel
theorem dX3_digest_61 : decode cX3_digest 61 = .ok (.iload 4, 2) := by decide +kernel
theorem dX3_digest_63 : decode cX3_digest 63 = .ok (.invokevirtual 130, 3) := by decide +kernel
theorem dX3_digest_66 : decode cX3_digest 66 = .ok (.i2l, 1) := by decide +kernel
theorem dX3_digest_67 : decode cX3_digest 67 = .ok (.ladd, 1) := by decide +kernel
theorem dX3_digest_68 : decode cX3_digest 68 = .ok (.lstore_n 1, 1) := by decide +kernel
theorem dX3_digest_69 : decode cX3_digest 69 = .ok (.iinc 4 1, 3) := by decide +kernel
theorem dX3_digest_72 : decode cX3_digest 72 = .ok (.goto (-25), 3) := by decide +kernel
theorem dX3_digest_75 : decode cX3_digest 75 = .ok (.iinc 3 1, 3) := by decide +kernel
theorem dX3_digest_78 : decode cX3_digest 78 = .ok (.goto (-45), 3) := by decide +kernel
theorem dX3_digest_81 : decode cX3_digest 81 = .ok (.iconst 0, 1) := by decide +kernel
theorem dX3_digest_82 : decode cX3_digest 82 = .ok (.istore_n 3, 1) := by decide +kernel
theorem dX3_digest_83 : decode cX3_digest 83 = .ok (.iload_n 3, 1) := by decide +kernel
theorem dX3_digest_84 : decode cX3_digest 84 = .ok (.iconst 3, 1) := by decide +kernel
theorem dX3_digest_85 : decode cX3_digest 85 = .ok (.if_icmp .ge 23, 3) := by decide +kernel
theorem dX3_digest_88 : decode cX3_digest 88 = .ok (.ldc2_w 289, 3) := by decide +kernel
theorem dX3_digest_91 : decode cX3_digest 91 = .ok (.lload_n 1, 1) := by decide +kernel
theorem dX3_digest_92 : decode cX3_digest 92 = .ok (.lmul, 1) := by decide +kernel
theorem dX3_digest_93 : decode cX3_digest 93 = .ok (.aload_n 0, 1) := by decide +kernel
theorem dX3_digest_94 : decode cX3_digest 94 = .ok (.getfield 40, 3) := by decide +kernel
theorem dX3_digest_97 : decode cX3_digest 97 = .ok (.iload_n 3, 1) := by decide +kernel
theorem dX3_digest_98 : decode cX3_digest 98 = .ok (.iaload, 1) := by decide +kernel
theorem dX3_digest_99 : decode cX3_digest 99 = .ok (.i2l, 1) := by decide +kernel
theorem dX3_digest_100 : decode cX3_digest 100 = .ok (.ladd, 1) := by decide +kernel
theorem dX3_digest_101 : decode cX3_digest 101 = .ok (.lstore_n 1, 1) := by decide +kernel
theorem dX3_digest_102 : decode cX3_digest 102 = .ok (.iinc 3 1, 3) := by decide +kernel
theorem dX3_digest_105 : decode cX3_digest 105 = .ok (.goto (-22), 3) := by decide +kernel
theorem dX3_digest_108 : decode cX3_digest 108 = .ok (.aload_n 0, 1) := by decide +kernel
theorem dX3_digest_109 : decode cX3_digest 109 = .ok (.getfield 18, 3) := by decide +kernel
theorem dX3_digest_112 : decode cX3_digest 112 = .ok (.aload_n 0, 1) := by decide +kernel
theorem dX3_digest_113 : decode cX3_digest 113 = .ok (.getfield 14, 3) := by decide +kernel
theorem dX3_digest_116 : decode cX3_digest 116 = .ok (.lload_n 1, 1) := by decide +kernel
theorem dX3_digest_117 : decode cX3_digest 117 = .ok (.invokevirtual 291, 3) := by decide +kernel
theorem dX3_digest_120 : decode cX3_digest 120 = .ok (.invokevirtual 291, 3) := by decide +kernel
theorem dX3_digest_123 : decode cX3_digest 123 = .ok (.lreturn, 1) := by decide +kernel
theorem dX3_found_0 : decode cX3_found 0 = .ok (.aload_n 0, 1) := by decide +kernel
theorem dX3_found_1 : decode cX3_found 1 = .ok (.iload_n 1, 1) := by decide +kernel
theorem dX3_found_2 : decode cX3_found 2 = .ok (.putfield 53, 3) := by decide +kernel
theorem dX3_found_5 : decode cX3_found 5 = .ok (.aload_n 0, 1) := by decide +kernel
theorem dX3_found_6 : decode cX3_found 6 = .ok (.getfield 50, 3) := by decide +kernel
theorem dX3_found_9 : decode cX3_found 9 = .ok (.iload_n 1, 1) := by decide +kernel
theorem dX3_found_10 : decode cX3_found 10 = .ok (.dup2, 1) := by decide +kernel
theorem dX3_found_11 : decode cX3_found 11 = .ok (.iaload, 1) := by decide +kernel
theorem dX3_found_12 : decode cX3_found 12 = .ok (.iconst 1, 1) := by decide +kernel
theorem dX3_found_13 : decode cX3_found 13 = .ok (.iadd, 1) := by decide +kernel
theorem dX3_found_14 : decode cX3_found 14 = .ok (.iastore, 1) := by decide +kernel
theorem dX3_found_15 : decode cX3_found 15 = .ok (.bipush (-3), 2) := by decide +kernel
theorem dX3_found_17 : decode cX3_found 17 = .ok (.ireturn, 1) := by decide +kernel
theorem dX3_toldByAsked_0 : decode cX3_toldByAsked 0 = .ok (.aload_n 0, 1) := by decide +kernel
theorem dX3_toldByAsked_1 : decode cX3_toldByAsked 1 = .ok (.iload_n 1, 1) := by decide +kernel
theorem dX3_toldByAsked_2 : decode cX3_toldByAsked 2 = .ok (.putfield 57, 3) := by decide +kernel
theorem dX3_toldByAsked_5 : decode cX3_toldByAsked 5 = .ok (.iconst 1, 1) := by decide +kernel
theorem dX3_toldByAsked_6 : decode cX3_toldByAsked 6 = .ok (.ireturn, 1) := by decide +kernel
theorem dX3_toldAside_0 : decode cX3_toldAside 0 = .ok (.aload_n 0, 1) := by decide +kernel
theorem dX3_toldAside_1 : decode cX3_toldAside 1 = .ok (.iload_n 2, 1) := by decide +kernel
theorem dX3_toldAside_2 : decode cX3_toldAside 2 = .ok (.putfield 57, 3) := by decide +kernel
theorem dX3_toldAside_5 : decode cX3_toldAside 5 = .ok (.iload_n 1, 1) := by decide +kernel
theorem dX3_toldAside_6 : decode cX3_toldAside 6 = .ok (.ireturn, 1) := by decide +kernel
theorem dX3_toldInParts_0 : decode cX3_toldInParts 0 = .ok (.bipush 12, 2) := by decide +kernel
theorem dX3_toldInParts_2 : decode cX3_toldInParts 2 = .ok (.aload_n 0, 1) := by decide +kernel
theorem dX3_toldInParts_3 : decode cX3_toldInParts 3 = .ok (.getfield 31, 3) := by decide +kernel
theorem dX3_toldInParts_6 : decode cX3_toldInParts 6 = .ok (.getfield 216, 3) := by decide +kernel
theorem dX3_toldInParts_9 : decode cX3_toldInParts 9 = .ok (.invokestatic 140, 3) := by decide +kernel
theorem dX3_toldInParts_12 : decode cX3_toldInParts 12 = .ok (.invokestatic 295, 3) := by decide +kernel
theorem dX3_toldInParts_15 : decode cX3_toldInParts 15 = .ok (.lstore_n 3, 1) := by decide +kernel
theorem dX3_toldInParts_16 : decode cX3_toldInParts 16 = .ok (.lload_n 1, 1) := by decide +kernel
theorem dX3_toldInParts_17 : decode cX3_toldInParts 17 = .ok (.lload_n 3, 1) := by decide +kernel
theorem dX3_toldInParts_18 : decode cX3_toldInParts 18 = .ok (.invokestatic 298, 3) := by decide +kernel
theorem dX3_toldInParts_21 : decode cX3_toldInParts 21 = .ok (.lstore 5, 2) := by decide +kernel
theorem dX3_toldInParts_23 : decode cX3_toldInParts 23 = .ok (.lload 5, 2) := by decide +kernel
theorem dX3_toldInParts_25 : decode cX3_toldInParts 25 = .ok (.lconst 0, 1) := by decide +kernel
theorem dX3_toldInParts_26 : decode cX3_toldInParts 26 = .ok (.lcmp, 1) := by decide +kernel
theorem dX3_toldInParts_27 : decode cX3_toldInParts 27 = .ok (.ifCond .le 19, 3) := by decide +kernel
theorem dX3_toldInParts_30 : decode cX3_toldInParts 30 = .ok (.aload_n 0, 1) := by decide +kernel
theorem dX3_toldInParts_31 : decode cX3_toldInParts 31 = .ok (.lload_n 1, 1) := by decide +kernel
theorem dX3_toldInParts_32 : decode cX3_toldInParts 32 = .ok (.lload 5, 2) := by decide +kernel
theorem dX3_toldInParts_34 : decode cX3_toldInParts 34 = .ok (.ldiv, 1) := by decide +kernel
theorem dX3_toldInParts_35 : decode cX3_toldInParts 35 = .ok (.putfield 60, 3) := by decide +kernel
theorem dX3_toldInParts_38 : decode cX3_toldInParts 38 = .ok (.aload_n 0, 1) := by decide +kernel
theorem dX3_toldInParts_39 : decode cX3_toldInParts 39 = .ok (.lload_n 3, 1) := by decide +kernel
theorem dX3_toldInParts_40 : decode cX3_toldInParts 40 = .ok (.lload 5, 2) := by decide +kernel
theorem dX3_toldInParts_42 : decode cX3_toldInParts 42 = .ok (.ldiv, 1) := by decide +kernel
theorem dX3_toldInParts_43 : decode cX3_toldInParts 43 = .ok (.putfield 64, 3) := by decide +kernel
theorem dX3_toldInParts_46 : decode cX3_toldInParts 46 = .ok (.iconst 1, 1) := by decide +kernel
theorem dX3_toldInParts_47 : decode cX3_toldInParts 47 = .ok (.ireturn, 1) := by decide +kernel
theorem dX3_make_0 : decode cX3_make 0 = .ok (.aload_n 1, 1) := by decide +kernel
theorem dX3_make_1 : decode cX3_make 1 = .ok (.iload_n 2, 1) := by decide +kernel
theorem dX3_make_2 : decode cX3_make 2 = .ok (.invokevirtual 95, 3) := by decide +kernel
theorem dX3_make_5 : decode cX3_make 5 = .ok (.ifCond .eq 11, 3) := by decide +kernel
theorem dX3_make_8 : decode cX3_make 8 = .ok (.iload_n 3, 1) := by decide +kernel
theorem dX3_make_9 : decode cX3_make 9 = .ok (.aload_n 1, 1) := by decide +kernel
theorem dX3_make_10 : decode cX3_make 10 = .ok (.getfield 302, 3) := by decide +kernel
theorem dX3_make_13 : decode cX3_make 13 = .ok (.if_icmp .le 5, 3) := by decide +kernel
theorem dX3_make_16 : decode cX3_make 16 = .ok (.iconst (-1), 1) := by decide +kernel
theorem dX3_make_17 : decode cX3_make 17 = .ok (.ireturn, 1) := by decide +kernel
theorem dX3_make_18 : decode cX3_make 18 = .ok (.iload_n 3, 1) := by decide +kernel
theorem dX3_make_19 : decode cX3_make 19 = .ok (.ifCond .ge 9, 3) := by decide +kernel
theorem dX3_make_22 : decode cX3_make 22 = .ok (.aload_n 0, 1) := by decide +kernel
theorem dX3_make_23 : decode cX3_make 23 = .ok (.iconst 5, 1) := by decide +kernel
theorem dX3_make_24 : decode cX3_make 24 = .ok (.invokevirtual 99, 3) := by decide +kernel
theorem dX3_make_27 : decode cX3_make 27 = .ok (.ireturn, 1) := by decide +kernel
theorem dX3_make_28 : decode cX3_make 28 = .ok (.aload_n 1, 1) := by decide +kernel
theorem dX3_make_29 : decode cX3_make 29 = .ok (.iload_n 2, 1) := by decide +kernel
theorem dX3_make_30 : decode cX3_make 30 = .ok (.iload_n 3, 1) := by decide +kernel
theorem dX3_make_31 : decode cX3_make 31 = .ok (.iload 4, 2) := by decide +kernel
theorem dX3_make_33 : decode cX3_make 33 = .ok (.invokevirtual 218, 3) := by decide +kernel
theorem dX3_make_36 : decode cX3_make 36 = .ok (.iload_n 3, 1) := by decide +kernel
theorem dX3_make_37 : decode cX3_make 37 = .ok (.ireturn, 1) := by decide +kernel
theorem dX3_refusalOfStrip_0 : decode cX3_refusalOfStrip 0 = .ok (.aload_n 1, 1) := by decide +kernel
theorem dX3_refusalOfStrip_1 : decode cX3_refusalOfStrip 1 = .ok (.iload_n 2, 1) := by decide +kernel
theorem dX3_refusalOfStrip_2 : decode cX3_refusalOfStrip 2 = .ok (.invokevirtual 95, 3) := by decide +kernel
theorem dX3_refusalOfStrip_5 : decode cX3_refusalOfStrip 5 = .ok (.ifCond .ne 5, 3) := by decide +kernel
theorem dX3_refusalOfStrip_8 : decode cX3_refusalOfStrip 8 = .ok (.iconst (-1), 1) := by decide +kernel
theorem dX3_refusalOfStrip_9 : decode cX3_refusalOfStrip 9 = .ok (.ireturn, 1) := by decide +kernel
theorem dX3_refusalOfStrip_10 : decode cX3_refusalOfStrip 10 = .ok (.aload_n 1, 1) := by decide +kernel
theorem dX3_refusalOfStrip_11 : decode cX3_refusalOfStrip 11 = .ok (.iload_n 2, 1) := by decide +kernel
theorem dX3_refusalOfStrip_12 : decode cX3_refusalOfStrip 12 = .ok (.invokevirtual 102, 3) := by decide +kernel
theorem dX3_refusalOfStrip_15 : decode cX3_refusalOfStrip 15 = .ok (.ifCond .eq 11, 3) := by decide +kernel
theorem dX3_refusalOfStrip_18 : decode cX3_refusalOfStrip 18 = .ok (.aload_n 0, 1) := by decide +kernel
theorem dX3_refusalOfStrip_19 : decode cX3_refusalOfStrip 19 = .ok (.iconst 1, 1) := by decide +kernel
theorem dX3_refusalOfStrip_20 : decode cX3_refusalOfStrip 20 = .ok (.invokevirtual 99, 3) := by decide +kernel
theorem dX3_refusalOfStrip_23 : decode cX3_refusalOfStrip 23 = .ok (.goto 4, 3) := by decide +kernel
theorem dX3_refusalOfStrip_26 : decode cX3_refusalOfStrip 26 = .ok (.iconst 0, 1) := by decide +kernel
theorem dX3_refusalOfStrip_27 : decode cX3_refusalOfStrip 27 = .ok (.ireturn, 1) := by decide +kernel
theorem dX3_refusalOfPlace_0 : decode cX3_refusalOfPlace 0 = .ok (.aload_n 0, 1) := by decide +kernel
theorem dX3_refusalOfPlace_1 : decode cX3_refusalOfPlace 1 = .ok (.aload_n 1, 1) := by decide +kernel
theorem dX3_refusalOfPlace_2 : decode cX3_refusalOfPlace 2 = .ok (.iload_n 2, 1) := by decide +kernel
theorem dX3_refusalOfPlace_3 : decode cX3_refusalOfPlace 3 = .ok (.invokevirtual 88, 3) := by decide +kernel
theorem dX3_refusalOfPlace_6 : decode cX3_refusalOfPlace 6 = .ok (.istore 4, 2) := by decide +kernel
theorem dX3_refusalOfPlace_8 : decode cX3_refusalOfPlace 8 = .ok (.iload 4, 2) := by decide +kernel
theorem dX3_refusalOfPlace_10 : decode cX3_refusalOfPlace 10 = .ok (.ifCond .eq 6, 3) := by decide +kernel
theorem dX3_refusalOfPlace_13 : decode cX3_refusalOfPlace 13 = .ok (.iload 4, 2) := by decide +kernel
theorem dX3_refusalOfPlace_15 : decode cX3_refusalOfPlace 15 = .ok (.ireturn, 1) := by decide +kernel
theorem dX3_refusalOfPlace_16 : decode cX3_refusalOfPlace 16 = .ok (.aload_n 1, 1) := by decide +kernel
theorem dX3_refusalOfPlace_17 : decode cX3_refusalOfPlace 17 = .ok (.iload_n 2, 1) := by decide +kernel
theorem dX3_refusalOfPlace_18 : decode cX3_refusalOfPlace 18 = .ok (.iload_n 3, 1) := by decide +kernel
theorem dX3_refusalOfPlace_19 : decode cX3_refusalOfPlace 19 = .ok (.iconst 1, 1) := by decide +kernel
theorem dX3_refusalOfPlace_20 : decode cX3_refusalOfPlace 20 = .ok (.invokevirtual 105, 3) := by decide +kernel
theorem dX3_refusalOfPlace_23 : decode cX3_refusalOfPlace 23 = .ok (.ifCond .eq 7, 3) := by decide +kernel
theorem dX3_refusalOfPlace_26 : decode cX3_refusalOfPlace 26 = .ok (.iconst 0, 1) := by decide +kernel
theorem dX3_refusalOfPlace_27 : decode cX3_refusalOfPlace 27 = .ok (.goto 8, 3) := by decide +kernel
theorem dX3_refusalOfPlace_30 : decode cX3_refusalOfPlace 30 = .ok (.aload_n 0, 1) := by decide +kernel
theorem dX3_refusalOfPlace_31 : decode cX3_refusalOfPlace 31 = .ok (.iconst 2, 1) := by decide +kernel
theorem dX3_refusalOfPlace_32 : decode cX3_refusalOfPlace 32 = .ok (.invokevirtual 99, 3) := by decide +kernel
theorem dX3_refusalOfPlace_35 : decode cX3_refusalOfPlace 35 = .ok (.ireturn, 1) := by decide +kernel
theorem dX3_refusalAtStone_0 : decode cX3_refusalAtStone 0 = .ok (.aload_n 0, 1) := by decide +kernel
theorem dX3_refusalAtStone_1 : decode cX3_refusalAtStone 1 = .ok (.getfield 24, 3) := by decide +kernel
theorem dX3_refusalAtStone_4 : decode cX3_refusalAtStone 4 = .ok (.iload_n 1, 1) := by decide +kernel
theorem dX3_refusalAtStone_5 : decode cX3_refusalAtStone 5 = .ok (.invokevirtual 129, 3) := by decide +kernel
theorem dX3_refusalAtStone_8 : decode cX3_refusalAtStone 8 = .ok (.ifCond .ne 5, 3) := by decide +kernel
theorem dX3_refusalAtStone_11 : decode cX3_refusalAtStone 11 = .ok (.iconst (-1), 1) := by decide +kernel
theorem dX3_refusalAtStone_12 : decode cX3_refusalAtStone 12 = .ok (.ireturn, 1) := by decide +kernel
theorem dX3_refusalAtStone_13 : decode cX3_refusalAtStone 13 = .ok (.aload_n 0, 1) := by decide +kernel
theorem dX3_refusalAtStone_14 : decode cX3_refusalAtStone 14 = .ok (.getfield 24, 3) := by decide +kernel
theorem dX3_refusalAtStone_17 : decode cX3_refusalAtStone 17 = .ok (.iload_n 1, 1) := by decide +kernel
theorem dX3_refusalAtStone_18 : decode cX3_refusalAtStone 18 = .ok (.invokevirtual 244, 3) := by decide +kernel
theorem dX3_refusalAtStone_21 : decode cX3_refusalAtStone 21 = .ok (.ifCond .ne 6, 3) := by decide +kernel
theorem dX3_refusalAtStone_24 : decode cX3_refusalAtStone 24 = .ok (.bipush (-4), 2) := by decide +kernel
theorem dX3_refusalAtStone_26 : decode cX3_refusalAtStone 26 = .ok (.ireturn, 1) := by decide +kernel
theorem dX3_refusalAtStone_27 : decode cX3_refusalAtStone 27 = .ok (.aload_n 0, 1) := by decide +kernel
theorem dX3_refusalAtStone_28 : decode cX3_refusalAtStone 28 = .ok (.getfield 24, 3) := by decide +kernel
theorem dX3_refusalAtStone_31 : decode cX3_refusalAtStone 31 = .ok (.invokevirtual 166, 3) := by decide +kernel
theorem dX3_refusalAtStone_34 : decode cX3_refusalAtStone 34 = .ok (.iconst 1, 1) := by decide +kernel
theorem dX3_refusalAtStone_35 : decode cX3_refusalAtStone 35 = .ok (.if_icmp .ge 8, 3) := by decide +kernel
theorem dX3_refusalAtStone_38 : decode cX3_refusalAtStone 38 = .ok (.bipush (-2), 2) := by decide +kernel
theorem dX3_refusalAtStone_40 : decode cX3_refusalAtStone 40 = .ok (.goto 4, 3) := by decide +kernel
theorem dX3_refusalAtStone_43 : decode cX3_refusalAtStone 43 = .ok (.iconst 0, 1) := by decide +kernel
theorem dX3_refusalAtStone_44 : decode cX3_refusalAtStone 44 = .ok (.ireturn, 1) := by decide +kernel
theorem dX3_refusalOfPairs_0 : decode cX3_refusalOfPairs 0 = .ok (.aload_n 0, 1) := by decide +kernel
theorem dX3_refusalOfPairs_1 : decode cX3_refusalOfPairs 1 = .ok (.getfield 24, 3) := by decide +kernel
theorem dX3_refusalOfPairs_4 : decode cX3_refusalOfPairs 4 = .ok (.iload_n 1, 1) := by decide +kernel
theorem dX3_refusalOfPairs_5 : decode cX3_refusalOfPairs 5 = .ok (.invokevirtual 129, 3) := by decide +kernel
theorem dX3_refusalOfPairs_8 : decode cX3_refusalOfPairs 8 = .ok (.ifCond .ne 5, 3) := by decide +kernel
theorem dX3_refusalOfPairs_11 : decode cX3_refusalOfPairs 11 = .ok (.iconst (-1), 1) := by decide +kernel
theorem dX3_refusalOfPairs_12 : decode cX3_refusalOfPairs 12 = .ok (.ireturn, 1) := by decide +kernel
theorem dX3_refusalOfPairs_13 : decode cX3_refusalOfPairs 13 = .ok (.aload_n 0, 1) := by decide +kernel
theorem dX3_refusalOfPairs_14 : decode cX3_refusalOfPairs 14 = .ok (.aload_n 0, 1) := by decide +kernel
theorem dX3_refusalOfPairs_15 : decode cX3_refusalOfPairs 15 = .ok (.getfield 14, 3) := by decide +kernel
theorem dX3_refusalOfPairs_18 : decode cX3_refusalOfPairs 18 = .ok (.iload_n 2, 1) := by decide +kernel
theorem dX3_refusalOfPairs_19 : decode cX3_refusalOfPairs 19 = .ok (.invokevirtual 88, 3) := by decide +kernel
theorem dX3_refusalOfPairs_22 : decode cX3_refusalOfPairs 22 = .ok (.istore_n 3, 1) := by decide +kernel
theorem dX3_refusalOfPairs_23 : decode cX3_refusalOfPairs 23 = .ok (.iload_n 3, 1) := by decide +kernel
theorem dX3_refusalOfPairs_24 : decode cX3_refusalOfPairs 24 = .ok (.ifCond .eq 5, 3) := by decide +kernel
theorem dX3_refusalOfPairs_27 : decode cX3_refusalOfPairs 27 = .ok (.iload_n 3, 1) := by decide +kernel
theorem dX3_refusalOfPairs_28 : decode cX3_refusalOfPairs 28 = .ok (.ireturn, 1) := by decide +kernel
theorem dX3_refusalOfPairs_29 : decode cX3_refusalOfPairs 29 = .ok (.aload_n 0, 1) := by decide +kernel
theorem dX3_refusalOfPairs_30 : decode cX3_refusalOfPairs 30 = .ok (.getfield 14, 3) := by decide +kernel
theorem dX3_refusalOfPairs_33 : decode cX3_refusalOfPairs 33 = .ok (.getfield 92, 3) := by decide +kernel
theorem dX3_refusalOfPairs_36 : decode cX3_refusalOfPairs 36 = .ok (.iload_n 2, 1) := by decide +kernel
theorem dX3_refusalOfPairs_37 : decode cX3_refusalOfPairs 37 = .ok (.iaload, 1) := by decide +kernel
theorem dX3_refusalOfPairs_38 : decode cX3_refusalOfPairs 38 = .ok (.iconst 2, 1) := by decide +kernel
theorem dX3_refusalOfPairs_39 : decode cX3_refusalOfPairs 39 = .ok (.irem, 1) := by decide +kernel
theorem dX3_refusalOfPairs_40 : decode cX3_refusalOfPairs 40 = .ok (.ifCond .eq 9, 3) := by decide +kernel
theorem dX3_refusalOfPairs_43 : decode cX3_refusalOfPairs 43 = .ok (.aload_n 0, 1) := by decide +kernel
theorem dX3_refusalOfPairs_44 : decode cX3_refusalOfPairs 44 = .ok (.iconst 5, 1) := by decide +kernel
theorem dX3_refusalOfPairs_45 : decode cX3_refusalOfPairs 45 = .ok (.invokevirtual 99, 3) := by decide +kernel
theorem dX3_refusalOfPairs_48 : decode cX3_refusalOfPairs 48 = .ok (.ireturn, 1) := by decide +kernel
theorem dX3_refusalOfPairs_49 : decode cX3_refusalOfPairs 49 = .ok (.iconst 0, 1) := by decide +kernel
theorem dX3_refusalOfPairs_50 : decode cX3_refusalOfPairs 50 = .ok (.istore 4, 2) := by decide +kernel
theorem dX3_refusalOfPairs_52 : decode cX3_refusalOfPairs 52 = .ok (.iload 4, 2) := by decide +kernel
theorem dX3_refusalOfPairs_54 : decode cX3_refusalOfPairs 54 = .ok (.aload_n 0, 1) := by decide +kernel
theorem dX3_refusalOfPairs_55 : decode cX3_refusalOfPairs 55 = .ok (.getfield 14, 3) := by decide +kernel
theorem dX3_refusalOfPairs_58 : decode cX3_refusalOfPairs 58 = .ok (.getfield 92, 3) := by decide +kernel
theorem dX3_refusalOfPairs_61 : decode cX3_refusalOfPairs 61 = .ok (.iload_n 2, 1) := by decide +kernel
theorem dX3_refusalOfPairs_62 : decode cX3_refusalOfPairs 62 = .ok (.iaload, 1) := by decide +kernel
theorem dX3_refusalOfPairs_63 : decode cX3_refusalOfPairs 63 = .ok (.if_icmp .ge 37, 3) := by decide +kernel
theorem dX3_refusalOfPairs_66 : decode cX3_refusalOfPairs 66 = .ok (.aload_n 0, 1) := by decide +kernel
theorem dX3_refusalOfPairs_67 : decode cX3_refusalOfPairs 67 = .ok (.getfield 24, 3) := by decide +kernel
theorem dX3_refusalOfPairs_70 : decode cX3_refusalOfPairs 70 = .ok (.aload_n 0, 1) := by decide +kernel
theorem dX3_refusalOfPairs_71 : decode cX3_refusalOfPairs 71 = .ok (.getfield 14, 3) := by decide +kernel
theorem dX3_refusalOfPairs_74 : decode cX3_refusalOfPairs 74 = .ok (.getfield 81, 3) := by decide +kernel
theorem dX3_refusalOfPairs_77 : decode cX3_refusalOfPairs 77 = .ok (.iload_n 2, 1) := by decide +kernel
theorem dX3_refusalOfPairs_78 : decode cX3_refusalOfPairs 78 = .ok (.aaload, 1) := by decide +kernel
theorem dX3_refusalOfPairs_79 : decode cX3_refusalOfPairs 79 = .ok (.iload 4, 2) := by decide +kernel
theorem dX3_refusalOfPairs_81 : decode cX3_refusalOfPairs 81 = .ok (.iaload, 1) := by decide +kernel
theorem dX3_refusalOfPairs_82 : decode cX3_refusalOfPairs 82 = .ok (.invokevirtual 155, 3) := by decide +kernel
theorem dX3_refusalOfPairs_85 : decode cX3_refusalOfPairs 85 = .ok (.ifCond .ne 9, 3) := by decide +kernel
theorem dX3_refusalOfPairs_88 : decode cX3_refusalOfPairs 88 = .ok (.aload_n 0, 1) := by decide +kernel
theorem dX3_refusalOfPairs_89 : decode cX3_refusalOfPairs 89 = .ok (.iconst 3, 1) := by decide +kernel
theorem dX3_refusalOfPairs_90 : decode cX3_refusalOfPairs 90 = .ok (.invokevirtual 99, 3) := by decide +kernel
theorem dX3_refusalOfPairs_93 : decode cX3_refusalOfPairs 93 = .ok (.ireturn, 1) := by decide +kernel
theorem dX3_refusalOfPairs_94 : decode cX3_refusalOfPairs 94 = .ok (.iinc 4 1, 3) := by decide +kernel
theorem dX3_refusalOfPairs_97 : decode cX3_refusalOfPairs 97 = .ok (.goto (-45), 3) := by decide +kernel
theorem dX3_refusalOfPairs_100 : decode cX3_refusalOfPairs 100 = .ok (.iconst 0, 1) := by decide +kernel
theorem dX3_refusalOfPairs_101 : decode cX3_refusalOfPairs 101 = .ok (.ireturn, 1) := by decide +kernel
theorem dX3_traitOf_0 : decode cX3_traitOf 0 = .ok (.iload_n 2, 1) := by decide +kernel
theorem dX3_traitOf_1 : decode cX3_traitOf 1 = .ok (.tableswitch 111 0 5 #[39, 49, 59, 69, 78, 94], 39) := by decide +kernel
theorem dX3_traitOf_40 : decode cX3_traitOf 40 = .ok (.aload_n 0, 1) := by decide +kernel
theorem dX3_traitOf_41 : decode cX3_traitOf 41 = .ok (.getfield 24, 3) := by decide +kernel
theorem dX3_traitOf_44 : decode cX3_traitOf 44 = .ok (.getfield 134, 3) := by decide +kernel
theorem dX3_traitOf_47 : decode cX3_traitOf 47 = .ok (.iload_n 1, 1) := by decide +kernel
theorem dX3_traitOf_48 : decode cX3_traitOf 48 = .ok (.iaload, 1) := by decide +kernel
theorem dX3_traitOf_49 : decode cX3_traitOf 49 = .ok (.ireturn, 1) := by decide +kernel
theorem dX3_traitOf_50 : decode cX3_traitOf 50 = .ok (.aload_n 0, 1) := by decide +kernel
theorem dX3_traitOf_51 : decode cX3_traitOf 51 = .ok (.getfield 24, 3) := by decide +kernel
theorem dX3_traitOf_54 : decode cX3_traitOf 54 = .ok (.getfield 305, 3) := by decide +kernel
theorem dX3_traitOf_57 : decode cX3_traitOf 57 = .ok (.iload_n 1, 1) := by decide +kernel
theorem dX3_traitOf_58 : decode cX3_traitOf 58 = .ok (.iaload, 1) := by decide +kernel
theorem dX3_traitOf_59 : decode cX3_traitOf 59 = .ok (.ireturn, 1) := by decide +kernel
theorem dX3_traitOf_60 : decode cX3_traitOf 60 = .ok (.aload_n 0, 1) := by decide +kernel
theorem dX3_traitOf_61 : decode cX3_traitOf 61 = .ok (.getfield 24, 3) := by decide +kernel
theorem dX3_traitOf_64 : decode cX3_traitOf 64 = .ok (.getfield 203, 3) := by decide +kernel
theorem dX3_traitOf_67 : decode cX3_traitOf 67 = .ok (.iload_n 1, 1) := by decide +kernel
theorem dX3_traitOf_68 : decode cX3_traitOf 68 = .ok (.iaload, 1) := by decide +kernel
theorem dX3_traitOf_69 : decode cX3_traitOf 69 = .ok (.ireturn, 1) := by decide +kernel
theorem dX3_traitOf_70 : decode cX3_traitOf 70 = .ok (.aload_n 0, 1) := by decide +kernel
theorem dX3_traitOf_71 : decode cX3_traitOf 71 = .ok (.getfield 24, 3) := by decide +kernel
theorem dX3_traitOf_74 : decode cX3_traitOf 74 = .ok (.iload_n 1, 1) := by decide +kernel
theorem dX3_traitOf_75 : decode cX3_traitOf 75 = .ok (.invokevirtual 148, 3) := by decide +kernel
theorem dX3_traitOf_78 : decode cX3_traitOf 78 = .ok (.ireturn, 1) := by decide +kernel
theorem dX3_traitOf_79 : decode cX3_traitOf 79 = .ok (.aload_n 0, 1) := by decide +kernel
theorem dX3_traitOf_80 : decode cX3_traitOf 80 = .ok (.getfield 24, 3) := by decide +kernel
theorem dX3_traitOf_83 : decode cX3_traitOf 83 = .ok (.iload_n 1, 1) := by decide +kernel
theorem dX3_traitOf_84 : decode cX3_traitOf 84 = .ok (.aload_n 0, 1) := by decide +kernel
theorem dX3_traitOf_85 : decode cX3_traitOf 85 = .ok (.getfield 24, 3) := by decide +kernel
theorem dX3_traitOf_88 : decode cX3_traitOf 88 = .ok (.getfield 203, 3) := by decide +kernel
theorem dX3_traitOf_91 : decode cX3_traitOf 91 = .ok (.invokevirtual 308, 3) := by decide +kernel
theorem dX3_traitOf_94 : decode cX3_traitOf 94 = .ok (.ireturn, 1) := by decide +kernel
theorem dX3_traitOf_95 : decode cX3_traitOf 95 = .ok (.aload_n 0, 1) := by decide +kernel
theorem dX3_traitOf_96 : decode cX3_traitOf 96 = .ok (.getfield 24, 3) := by decide +kernel
theorem dX3_traitOf_99 : decode cX3_traitOf 99 = .ok (.iload_n 1, 1) := by decide +kernel
theorem dX3_traitOf_100 : decode cX3_traitOf 100 = .ok (.invokevirtual 244, 3) := by decide +kernel
theorem dX3_traitOf_103 : decode cX3_traitOf 103 = .ok (.ifCond .eq 7, 3) := by decide +kernel
theorem dX3_traitOf_106 : decode cX3_traitOf 106 = .ok (.iconst 0, 1) := by decide +kernel
theorem dX3_traitOf_107 : decode cX3_traitOf 107 = .ok (.goto 4, 3) := by decide +kernel
theorem dX3_traitOf_110 : decode cX3_traitOf 110 = .ok (.iconst 1, 1) := by decide +kernel
theorem dX3_traitOf_111 : decode cX3_traitOf 111 = .ok (.ireturn, 1) := by decide +kernel
theorem dX3_traitOf_112 : decode cX3_traitOf 112 = .ok (.aload_n 0, 1) := by decide +kernel
theorem dX3_traitOf_113 : decode cX3_traitOf 113 = .ok (.getfield 24, 3) := by decide +kernel
theorem dX3_traitOf_116 : decode cX3_traitOf 116 = .ok (.iload_n 1, 1) := by decide +kernel
theorem dX3_traitOf_117 : decode cX3_traitOf 117 = .ok (.invokevirtual 182, 3) := by decide +kernel
theorem dX3_traitOf_120 : decode cX3_traitOf 120 = .ok (.ifCond .eq 7, 3) := by decide +kernel
theorem dX3_traitOf_123 : decode cX3_traitOf 123 = .ok (.iconst 1, 1) := by decide +kernel
theorem dX3_traitOf_124 : decode cX3_traitOf 124 = .ok (.goto 4, 3) := by decide +kernel
theorem dX3_traitOf_127 : decode cX3_traitOf 127 = .ok (.iconst 0, 1) := by decide +kernel
theorem dX3_traitOf_128 : decode cX3_traitOf 128 = .ok (.ireturn, 1) := by decide +kernel
theorem dX3_countOf_0 : decode cX3_countOf 0 = .ok (.iload_n 1, 1) := by decide +kernel
theorem dX3_countOf_1 : decode cX3_countOf 1 = .ok (.tableswitch 165 0 10 #[59, 67, 78, 86, 94, 102, 110, 121, 129, 137, 142], 59) := by decide +kernel
theorem dX3_countOf_60 : decode cX3_countOf 60 = .ok (.aload_n 0, 1) := by decide +kernel
theorem dX3_countOf_61 : decode cX3_countOf 61 = .ok (.getfield 24, 3) := by decide +kernel
theorem dX3_countOf_64 : decode cX3_countOf 64 = .ok (.getfield 126, 3) := by decide +kernel
theorem dX3_countOf_67 : decode cX3_countOf 67 = .ok (.ireturn, 1) := by decide +kernel
theorem dX3_countOf_68 : decode cX3_countOf 68 = .ok (.aload_n 0, 1) := by decide +kernel
theorem dX3_countOf_69 : decode cX3_countOf 69 = .ok (.getfield 24, 3) := by decide +kernel
theorem dX3_countOf_72 : decode cX3_countOf 72 = .ok (.getfield 185, 3) := by decide +kernel
theorem dX3_countOf_75 : decode cX3_countOf 75 = .ok (.invokestatic 140, 3) := by decide +kernel
theorem dX3_countOf_78 : decode cX3_countOf 78 = .ok (.ireturn, 1) := by decide +kernel
theorem dX3_countOf_79 : decode cX3_countOf 79 = .ok (.aload_n 0, 1) := by decide +kernel
theorem dX3_countOf_80 : decode cX3_countOf 80 = .ok (.getfield 24, 3) := by decide +kernel
theorem dX3_countOf_83 : decode cX3_countOf 83 = .ok (.getfield 188, 3) := by decide +kernel
theorem dX3_countOf_86 : decode cX3_countOf 86 = .ok (.ireturn, 1) := by decide +kernel
theorem dX3_countOf_87 : decode cX3_countOf 87 = .ok (.aload_n 0, 1) := by decide +kernel
theorem dX3_countOf_88 : decode cX3_countOf 88 = .ok (.getfield 24, 3) := by decide +kernel
theorem dX3_countOf_91 : decode cX3_countOf 91 = .ok (.getfield 197, 3) := by decide +kernel
theorem dX3_countOf_94 : decode cX3_countOf 94 = .ok (.ireturn, 1) := by decide +kernel
theorem dX3_countOf_95 : decode cX3_countOf 95 = .ok (.aload_n 0, 1) := by decide +kernel
theorem dX3_countOf_96 : decode cX3_countOf 96 = .ok (.getfield 24, 3) := by decide +kernel
theorem dX3_countOf_99 : decode cX3_countOf 99 = .ok (.getfield 185, 3) := by decide +kernel
theorem dX3_countOf_102 : decode cX3_countOf 102 = .ok (.ireturn, 1) := by decide +kernel
theorem dX3_countOf_103 : decode cX3_countOf 103 = .ok (.aload_n 0, 1) := by decide +kernel
theorem dX3_countOf_104 : decode cX3_countOf 104 = .ok (.getfield 24, 3) := by decide +kernel
theorem dX3_countOf_107 : decode cX3_countOf 107 = .ok (.getfield 179, 3) := by decide +kernel
theorem dX3_countOf_110 : decode cX3_countOf 110 = .ok (.ireturn, 1) := by decide +kernel
theorem dX3_countOf_111 : decode cX3_countOf 111 = .ok (.aload_n 0, 1) := by decide +kernel
theorem dX3_countOf_112 : decode cX3_countOf 112 = .ok (.getfield 24, 3) := by decide +kernel
theorem dX3_countOf_115 : decode cX3_countOf 115 = .ok (.invokevirtual 200, 3) := by decide +kernel
theorem dX3_countOf_118 : decode cX3_countOf 118 = .ok (.invokestatic 140, 3) := by decide +kernel
theorem dX3_countOf_121 : decode cX3_countOf 121 = .ok (.ireturn, 1) := by decide +kernel
theorem dX3_countOf_122 : decode cX3_countOf 122 = .ok (.aload_n 0, 1) := by decide +kernel
theorem dX3_countOf_123 : decode cX3_countOf 123 = .ok (.getfield 14, 3) := by decide +kernel
theorem dX3_countOf_126 : decode cX3_countOf 126 = .ok (.invokevirtual 312, 3) := by decide +kernel
theorem dX3_countOf_129 : decode cX3_countOf 129 = .ok (.ireturn, 1) := by decide +kernel
theorem dX3_countOf_130 : decode cX3_countOf 130 = .ok (.aload_n 0, 1) := by decide +kernel
theorem dX3_countOf_131 : decode cX3_countOf 131 = .ok (.getfield 18, 3) := by decide +kernel
theorem dX3_countOf_134 : decode cX3_countOf 134 = .ok (.invokevirtual 312, 3) := by decide +kernel
theorem dX3_countOf_137 : decode cX3_countOf 137 = .ok (.ireturn, 1) := by decide +kernel
theorem dX3_countOf_138 : decode cX3_countOf 138 = .ok (.aload_n 0, 1) := by decide +kernel
theorem dX3_countOf_139 : decode cX3_countOf 139 = .ok (.invokevirtual 315, 3) := by decide +kernel
theorem dX3_countOf_142 : decode cX3_countOf 142 = .ok (.ireturn, 1) := by decide +kernel
theorem dX3_countOf_143 : decode cX3_countOf 143 = .ok (.aload_n 0, 1) := by decide +kernel
theorem dX3_countOf_144 : decode cX3_countOf 144 = .ok (.getfield 24, 3) := by decide +kernel
theorem dX3_countOf_147 : decode cX3_countOf 147 = .ok (.getfield 318, 3) := by decide +kernel
theorem dX3_countOf_150 : decode cX3_countOf 150 = .ok (.iconst 4, 1) := by decide +kernel
theorem dX3_countOf_151 : decode cX3_countOf 151 = .ok (.iaload, 1) := by decide +kernel
theorem dX3_countOf_152 : decode cX3_countOf 152 = .ok (.aload_n 0, 1) := by decide +kernel
theorem dX3_countOf_153 : decode cX3_countOf 153 = .ok (.getfield 24, 3) := by decide +kernel
theorem dX3_countOf_156 : decode cX3_countOf 156 = .ok (.getfield 318, 3) := by decide +kernel
theorem dX3_countOf_159 : decode cX3_countOf 159 = .ok (.iconst 5, 1) := by decide +kernel
theorem dX3_countOf_160 : decode cX3_countOf 160 = .ok (.iaload, 1) := by decide +kernel
theorem dX3_countOf_161 : decode cX3_countOf 161 = .ok (.ior, 1) := by decide +kernel
theorem dX3_countOf_162 : decode cX3_countOf 162 = .ok (.invokestatic 140, 3) := by decide +kernel
theorem dX3_countOf_165 : decode cX3_countOf 165 = .ok (.ireturn, 1) := by decide +kernel
theorem dX3_countOf_166 : decode cX3_countOf 166 = .ok (.aload_n 0, 1) := by decide +kernel
theorem dX3_countOf_167 : decode cX3_countOf 167 = .ok (.getfield 24, 3) := by decide +kernel
theorem dX3_countOf_170 : decode cX3_countOf 170 = .ok (.getfield 318, 3) := by decide +kernel
theorem dX3_countOf_173 : decode cX3_countOf 173 = .ok (.iconst 1, 1) := by decide +kernel
theorem dX3_countOf_174 : decode cX3_countOf 174 = .ok (.iaload, 1) := by decide +kernel
theorem dX3_countOf_175 : decode cX3_countOf 175 = .ok (.invokestatic 140, 3) := by decide +kernel
theorem dX3_countOf_178 : decode cX3_countOf 178 = .ok (.ireturn, 1) := by decide +kernel
theorem dX3_keptGates_0 : decode cX3_keptGates 0 = .ok (.iconst 0, 1) := by decide +kernel
theorem dX3_keptGates_1 : decode cX3_keptGates 1 = .ok (.istore_n 1, 1) := by decide +kernel
theorem dX3_keptGates_2 : decode cX3_keptGates 2 = .ok (.iconst 0, 1) := by decide +kernel
theorem dX3_keptGates_3 : decode cX3_keptGates 3 = .ok (.istore_n 2, 1) := by decide +kernel
theorem dX3_keptGates_4 : decode cX3_keptGates 4 = .ok (.iload_n 2, 1) := by decide +kernel
theorem dX3_keptGates_5 : decode cX3_keptGates 5 = .ok (.iconst 3, 1) := by decide +kernel
theorem dX3_keptGates_6 : decode cX3_keptGates 6 = .ok (.if_icmp .ge 21, 3) := by decide +kernel
theorem dX3_keptGates_9 : decode cX3_keptGates 9 = .ok (.aload_n 0, 1) := by decide +kernel
theorem dX3_keptGates_10 : decode cX3_keptGates 10 = .ok (.getfield 40, 3) := by decide +kernel
theorem dX3_keptGates_13 : decode cX3_keptGates 13 = .ok (.iload_n 2, 1) := by decide +kernel
theorem dX3_keptGates_14 : decode cX3_keptGates 14 = .ok (.iaload, 1) := by decide +kernel
theorem dX3_keptGates_15 : decode cX3_keptGates 15 = .ok (.ifCond .lt 6, 3) := by decide +kernel
theorem dX3_keptGates_18 : decode cX3_keptGates 18 = .ok (.iinc 1 1, 3) := by decide +kernel
theorem dX3_keptGates_21 : decode cX3_keptGates 21 = .ok (.iinc 2 1, 3) := by decide +kernel
theorem dX3_keptGates_24 : decode cX3_keptGates 24 = .ok (.goto (-20), 3) := by decide +kernel
theorem dX3_keptGates_27 : decode cX3_keptGates 27 = .ok (.iload_n 1, 1) := by decide +kernel
theorem dX3_keptGates_28 : decode cX3_keptGates 28 = .ok (.ireturn, 1) := by decide +kernel
theorem dX3_allCome_0 : decode cX3_allCome 0 = .ok (.aload_n 0, 1) := by decide +kernel
theorem dX3_allCome_1 : decode cX3_allCome 1 = .ok (.getfield 31, 3) := by decide +kernel
theorem dX3_allCome_4 : decode cX3_allCome 4 = .ok (.aload_n 0, 1) := by decide +kernel
theorem dX3_allCome_5 : decode cX3_allCome 5 = .ok (.getfield 24, 3) := by decide +kernel
theorem dX3_allCome_8 : decode cX3_allCome 8 = .ok (.aload_n 1, 1) := by decide +kernel
theorem dX3_allCome_9 : decode cX3_allCome 9 = .ok (.invokevirtual 321, 3) := by decide +kernel
theorem dX3_allCome_12 : decode cX3_allCome 12 = .ok (.aload_n 0, 1) := by decide +kernel
theorem dX3_allCome_13 : decode cX3_allCome 13 = .ok (.getfield 31, 3) := by decide +kernel
theorem dX3_allCome_16 : decode cX3_allCome 16 = .ok (.invokevirtual 324, 3) := by decide +kernel
theorem dX3_allCome_19 : decode cX3_allCome 19 = .ok (.ifCond .ne 5, 3) := by decide +kernel
theorem dX3_allCome_22 : decode cX3_allCome 22 = .ok (.iconst 0, 1) := by decide +kernel
theorem dX3_allCome_23 : decode cX3_allCome 23 = .ok (.ireturn, 1) := by decide +kernel
theorem dX3_allCome_24 : decode cX3_allCome 24 = .ok (.aload_n 0, 1) := by decide +kernel
theorem dX3_allCome_25 : decode cX3_allCome 25 = .ok (.getfield 31, 3) := by decide +kernel
theorem dX3_allCome_28 : decode cX3_allCome 28 = .ok (.invokevirtual 328, 3) := by decide +kernel
theorem dX3_allCome_31 : decode cX3_allCome 31 = .ok (.aload_n 0, 1) := by decide +kernel
theorem dX3_allCome_32 : decode cX3_allCome 32 = .ok (.getfield 31, 3) := by decide +kernel
theorem dX3_allCome_35 : decode cX3_allCome 35 = .ok (.aload_n 0, 1) := by decide +kernel
theorem dX3_allCome_36 : decode cX3_allCome 36 = .ok (.getfield 31, 3) := by decide +kernel
theorem dX3_allCome_39 : decode cX3_allCome 39 = .ok (.getfield 216, 3) := by decide +kernel
theorem dX3_allCome_42 : decode cX3_allCome 42 = .ok (.invokevirtual 224, 3) := by decide +kernel
theorem dX3_allCome_45 : decode cX3_allCome 45 = .ok (.ireturn, 1) := by decide +kernel
theorem dX3_firstMeeting_0 : decode cX3_firstMeeting 0 = .ok (.iconst 0, 1) := by decide +kernel
theorem dX3_firstMeeting_1 : decode cX3_firstMeeting 1 = .ok (.istore_n 3, 1) := by decide +kernel
theorem dX3_firstMeeting_2 : decode cX3_firstMeeting 2 = .ok (.iload_n 3, 1) := by decide +kernel
theorem dX3_firstMeeting_3 : decode cX3_firstMeeting 3 = .ok (.aload_n 0, 1) := by decide +kernel
theorem dX3_firstMeeting_4 : decode cX3_firstMeeting 4 = .ok (.getfield 24, 3) := by decide +kernel
theorem dX3_firstMeeting_7 : decode cX3_firstMeeting 7 = .ok (.getfield 126, 3) := by decide +kernel
theorem dX3_firstMeeting_10 : decode cX3_firstMeeting 10 = .ok (.if_icmp .ge 73, 3) := by decide +kernel
theorem dX3_firstMeeting_13 : decode cX3_firstMeeting 13 = .ok (.iload_n 3, 1) := by decide +kernel
theorem dX3_firstMeeting_14 : decode cX3_firstMeeting 14 = .ok (.iconst 1, 1) := by decide +kernel
theorem dX3_firstMeeting_15 : decode cX3_firstMeeting 15 = .ok (.iadd, 1) := by decide +kernel
theorem dX3_firstMeeting_16 : decode cX3_firstMeeting 16 = .ok (.istore 4, 2) := by decide +kernel
theorem dX3_firstMeeting_18 : decode cX3_firstMeeting 18 = .ok (.iload 4, 2) := by decide +kernel
theorem dX3_firstMeeting_20 : decode cX3_firstMeeting 20 = .ok (.aload_n 0, 1) := by decide +kernel
theorem dX3_firstMeeting_21 : decode cX3_firstMeeting 21 = .ok (.getfield 24, 3) := by decide +kernel
theorem dX3_firstMeeting_24 : decode cX3_firstMeeting 24 = .ok (.getfield 126, 3) := by decide +kernel
theorem dX3_firstMeeting_27 : decode cX3_firstMeeting 27 = .ok (.if_icmp .ge 50, 3) := by decide +kernel
theorem dX3_firstMeeting_30 : decode cX3_firstMeeting 30 = .ok (.aload_n 0, 1) := by decide +kernel
theorem dX3_firstMeeting_31 : decode cX3_firstMeeting 31 = .ok (.getfield 24, 3) := by decide +kernel
theorem dX3_firstMeeting_34 : decode cX3_firstMeeting 34 = .ok (.iload_n 3, 1) := by decide +kernel
theorem dX3_firstMeeting_35 : decode cX3_firstMeeting 35 = .ok (.iload 4, 2) := by decide +kernel
theorem dX3_firstMeeting_37 : decode cX3_firstMeeting 37 = .ok (.invokevirtual 162, 3) := by decide +kernel
theorem dX3_firstMeeting_40 : decode cX3_firstMeeting 40 = .ok (.ifCond .eq 31, 3) := by decide +kernel
theorem dX3_firstMeeting_43 : decode cX3_firstMeeting 43 = .ok (.aload_n 0, 1) := by decide +kernel
theorem dX3_firstMeeting_44 : decode cX3_firstMeeting 44 = .ok (.getfield 24, 3) := by decide +kernel
theorem dX3_firstMeeting_47 : decode cX3_firstMeeting 47 = .ok (.iload_n 3, 1) := by decide +kernel
theorem dX3_firstMeeting_48 : decode cX3_firstMeeting 48 = .ok (.iload 4, 2) := by decide +kernel
theorem dX3_firstMeeting_50 : decode cX3_firstMeeting 50 = .ok (.aload_n 1, 1) := by decide +kernel
theorem dX3_firstMeeting_51 : decode cX3_firstMeeting 51 = .ok (.aload_n 2, 1) := by decide +kernel
theorem dX3_firstMeeting_52 : decode cX3_firstMeeting 52 = .ok (.invokevirtual 331, 3) := by decide +kernel
theorem dX3_firstMeeting_55 : decode cX3_firstMeeting 55 = .ok (.aload_n 0, 1) := by decide +kernel
theorem dX3_firstMeeting_56 : decode cX3_firstMeeting 56 = .ok (.aload_n 2, 1) := by decide +kernel
theorem dX3_firstMeeting_57 : decode cX3_firstMeeting 57 = .ok (.invokevirtual 233, 3) := by decide +kernel
theorem dX3_firstMeeting_60 : decode cX3_firstMeeting 60 = .ok (.ifCond .eq 11, 3) := by decide +kernel
theorem dX3_firstMeeting_63 : decode cX3_firstMeeting 63 = .ok (.bipush 10, 2) := by decide +kernel
theorem dX3_firstMeeting_65 : decode cX3_firstMeeting 65 = .ok (.iload_n 3, 1) := by decide +kernel
theorem dX3_firstMeeting_66 : decode cX3_firstMeeting 66 = .ok (.imul, 1) := by decide +kernel
theorem dX3_firstMeeting_67 : decode cX3_firstMeeting 67 = .ok (.iload 4, 2) := by decide +kernel
theorem dX3_firstMeeting_69 : decode cX3_firstMeeting 69 = .ok (.iadd, 1) := by decide +kernel
theorem dX3_firstMeeting_70 : decode cX3_firstMeeting 70 = .ok (.ireturn, 1) := by decide +kernel
theorem dX3_firstMeeting_71 : decode cX3_firstMeeting 71 = .ok (.iinc 4 1, 3) := by decide +kernel
theorem dX3_firstMeeting_74 : decode cX3_firstMeeting 74 = .ok (.goto (-56), 3) := by decide +kernel
theorem dX3_firstMeeting_77 : decode cX3_firstMeeting 77 = .ok (.iinc 3 1, 3) := by decide +kernel
theorem dX3_firstMeeting_80 : decode cX3_firstMeeting 80 = .ok (.goto (-78), 3) := by decide +kernel
theorem dX3_firstMeeting_83 : decode cX3_firstMeeting 83 = .ok (.bipush (-9), 2) := by decide +kernel
theorem dX3_firstMeeting_85 : decode cX3_firstMeeting 85 = .ok (.ireturn, 1) := by decide +kernel
theorem dX3_firstTwoMeetings_0 : decode cX3_firstTwoMeetings 0 = .ok (.iconst 0, 1) := by decide +kernel
theorem dX3_firstTwoMeetings_1 : decode cX3_firstTwoMeetings 1 = .ok (.istore_n 1, 1) := by decide +kernel
theorem dX3_firstTwoMeetings_2 : decode cX3_firstTwoMeetings 2 = .ok (.iload_n 1, 1) := by decide +kernel
theorem dX3_firstTwoMeetings_3 : decode cX3_firstTwoMeetings 3 = .ok (.aload_n 0, 1) := by decide +kernel
theorem dX3_firstTwoMeetings_4 : decode cX3_firstTwoMeetings 4 = .ok (.getfield 24, 3) := by decide +kernel
theorem dX3_firstTwoMeetings_7 : decode cX3_firstTwoMeetings 7 = .ok (.getfield 126, 3) := by decide +kernel
theorem dX3_firstTwoMeetings_10 : decode cX3_firstTwoMeetings 10 = .ok (.if_icmp .ge 93, 3) := by decide +kernel
theorem dX3_firstTwoMeetings_13 : decode cX3_firstTwoMeetings 13 = .ok (.iload_n 1, 1) := by decide +kernel
theorem dX3_firstTwoMeetings_14 : decode cX3_firstTwoMeetings 14 = .ok (.iconst 1, 1) := by decide +kernel
theorem dX3_firstTwoMeetings_15 : decode cX3_firstTwoMeetings 15 = .ok (.iadd, 1) := by decide +kernel
theorem dX3_firstTwoMeetings_16 : decode cX3_firstTwoMeetings 16 = .ok (.istore_n 2, 1) := by decide +kernel
theorem dX3_firstTwoMeetings_17 : decode cX3_firstTwoMeetings 17 = .ok (.iload_n 2, 1) := by decide +kernel
theorem dX3_firstTwoMeetings_18 : decode cX3_firstTwoMeetings 18 = .ok (.aload_n 0, 1) := by decide +kernel
theorem dX3_firstTwoMeetings_19 : decode cX3_firstTwoMeetings 19 = .ok (.getfield 24, 3) := by decide +kernel
theorem dX3_firstTwoMeetings_22 : decode cX3_firstTwoMeetings 22 = .ok (.getfield 126, 3) := by decide +kernel
theorem dX3_firstTwoMeetings_25 : decode cX3_firstTwoMeetings 25 = .ok (.if_icmp .ge 72, 3) := by decide +kernel
theorem dX3_firstTwoMeetings_28 : decode cX3_firstTwoMeetings 28 = .ok (.aload_n 0, 1) := by decide +kernel
theorem dX3_firstTwoMeetings_29 : decode cX3_firstTwoMeetings 29 = .ok (.getfield 24, 3) := by decide +kernel
theorem dX3_firstTwoMeetings_32 : decode cX3_firstTwoMeetings 32 = .ok (.iload_n 1, 1) := by decide +kernel
theorem dX3_firstTwoMeetings_33 : decode cX3_firstTwoMeetings 33 = .ok (.iload_n 2, 1) := by decide +kernel
theorem dX3_firstTwoMeetings_34 : decode cX3_firstTwoMeetings 34 = .ok (.invokevirtual 162, 3) := by decide +kernel
theorem dX3_firstTwoMeetings_37 : decode cX3_firstTwoMeetings 37 = .ok (.ifCond .eq 54, 3) := by decide +kernel
theorem dX3_firstTwoMeetings_40 : decode cX3_firstTwoMeetings 40 = .ok (.aload_n 0, 1) := by decide +kernel
theorem dX3_firstTwoMeetings_41 : decode cX3_firstTwoMeetings 41 = .ok (.getfield 24, 3) := by decide +kernel
theorem dX3_firstTwoMeetings_44 : decode cX3_firstTwoMeetings 44 = .ok (.iload_n 1, 1) := by decide +kernel
theorem dX3_firstTwoMeetings_45 : decode cX3_firstTwoMeetings 45 = .ok (.iload_n 2, 1) := by decide +kernel
theorem dX3_firstTwoMeetings_46 : decode cX3_firstTwoMeetings 46 = .ok (.aload_n 0, 1) := by decide +kernel
theorem dX3_firstTwoMeetings_47 : decode cX3_firstTwoMeetings 47 = .ok (.getfield 24, 3) := by decide +kernel
theorem dX3_firstTwoMeetings_50 : decode cX3_firstTwoMeetings 50 = .ok (.getfield 203, 3) := by decide +kernel
theorem dX3_firstTwoMeetings_53 : decode cX3_firstTwoMeetings 53 = .ok (.aload_n 0, 1) := by decide +kernel
theorem dX3_firstTwoMeetings_54 : decode cX3_firstTwoMeetings 54 = .ok (.getfield 44, 3) := by decide +kernel
theorem dX3_firstTwoMeetings_57 : decode cX3_firstTwoMeetings 57 = .ok (.invokevirtual 331, 3) := by decide +kernel
theorem dX3_firstTwoMeetings_60 : decode cX3_firstTwoMeetings 60 = .ok (.aload_n 0, 1) := by decide +kernel
theorem dX3_firstTwoMeetings_61 : decode cX3_firstTwoMeetings 61 = .ok (.aload_n 0, 1) := by decide +kernel
theorem dX3_firstTwoMeetings_62 : decode cX3_firstTwoMeetings 62 = .ok (.getfield 44, 3) := by decide +kernel
theorem dX3_firstTwoMeetings_65 : decode cX3_firstTwoMeetings 65 = .ok (.aload_n 0, 1) := by decide +kernel
theorem dX3_firstTwoMeetings_66 : decode cX3_firstTwoMeetings 66 = .ok (.getfield 47, 3) := by decide +kernel
theorem dX3_firstTwoMeetings_69 : decode cX3_firstTwoMeetings 69 = .ok (.invokevirtual 237, 3) := by decide +kernel
theorem dX3_firstTwoMeetings_72 : decode cX3_firstTwoMeetings 72 = .ok (.istore_n 3, 1) := by decide +kernel
theorem dX3_firstTwoMeetings_73 : decode cX3_firstTwoMeetings 73 = .ok (.iload_n 3, 1) := by decide +kernel
theorem dX3_firstTwoMeetings_74 : decode cX3_firstTwoMeetings 74 = .ok (.bipush (-9), 2) := by decide +kernel
theorem dX3_firstTwoMeetings_76 : decode cX3_firstTwoMeetings 76 = .ok (.if_icmp .eq 15, 3) := by decide +kernel
theorem dX3_firstTwoMeetings_79 : decode cX3_firstTwoMeetings 79 = .ok (.bipush 100, 2) := by decide +kernel
theorem dX3_firstTwoMeetings_81 : decode cX3_firstTwoMeetings 81 = .ok (.bipush 10, 2) := by decide +kernel
theorem dX3_firstTwoMeetings_83 : decode cX3_firstTwoMeetings 83 = .ok (.iload_n 1, 1) := by decide +kernel
theorem dX3_firstTwoMeetings_84 : decode cX3_firstTwoMeetings 84 = .ok (.imul, 1) := by decide +kernel
theorem dX3_firstTwoMeetings_85 : decode cX3_firstTwoMeetings 85 = .ok (.iload_n 2, 1) := by decide +kernel
theorem dX3_firstTwoMeetings_86 : decode cX3_firstTwoMeetings 86 = .ok (.iadd, 1) := by decide +kernel
theorem dX3_firstTwoMeetings_87 : decode cX3_firstTwoMeetings 87 = .ok (.imul, 1) := by decide +kernel
theorem dX3_firstTwoMeetings_88 : decode cX3_firstTwoMeetings 88 = .ok (.iload_n 3, 1) := by decide +kernel
theorem dX3_firstTwoMeetings_89 : decode cX3_firstTwoMeetings 89 = .ok (.iadd, 1) := by decide +kernel
theorem dX3_firstTwoMeetings_90 : decode cX3_firstTwoMeetings 90 = .ok (.ireturn, 1) := by decide +kernel
theorem dX3_firstTwoMeetings_91 : decode cX3_firstTwoMeetings 91 = .ok (.iinc 2 1, 3) := by decide +kernel
theorem dX3_firstTwoMeetings_94 : decode cX3_firstTwoMeetings 94 = .ok (.goto (-77), 3) := by decide +kernel
theorem dX3_firstTwoMeetings_97 : decode cX3_firstTwoMeetings 97 = .ok (.iinc 1 1, 3) := by decide +kernel
theorem dX3_firstTwoMeetings_100 : decode cX3_firstTwoMeetings 100 = .ok (.goto (-98), 3) := by decide +kernel
theorem dX3_firstTwoMeetings_103 : decode cX3_firstTwoMeetings 103 = .ok (.bipush (-9), 2) := by decide +kernel
theorem dX3_firstTwoMeetings_105 : decode cX3_firstTwoMeetings 105 = .ok (.ireturn, 1) := by decide +kernel
theorem dX3_mostByCardOf_0 : decode cX3_mostByCardOf 0 = .ok (.aload_n 0, 1) := by decide +kernel
theorem dX3_mostByCardOf_1 : decode cX3_mostByCardOf 1 = .ok (.getfield 24, 3) := by decide +kernel
theorem dX3_mostByCardOf_4 : decode cX3_mostByCardOf 4 = .ok (.getfield 179, 3) := by decide +kernel
theorem dX3_mostByCardOf_7 : decode cX3_mostByCardOf 7 = .ok (.aload_n 0, 1) := by decide +kernel
theorem dX3_mostByCardOf_8 : decode cX3_mostByCardOf 8 = .ok (.getfield 24, 3) := by decide +kernel
theorem dX3_mostByCardOf_11 : decode cX3_mostByCardOf 11 = .ok (.iload_n 1, 1) := by decide +kernel
theorem dX3_mostByCardOf_12 : decode cX3_mostByCardOf 12 = .ok (.invokevirtual 148, 3) := by decide +kernel
theorem dX3_mostByCardOf_15 : decode cX3_mostByCardOf 15 = .ok (.ior, 1) := by decide +kernel
theorem dX3_mostByCardOf_16 : decode cX3_mostByCardOf 16 = .ok (.istore_n 2, 1) := by decide +kernel
theorem dX3_mostByCardOf_17 : decode cX3_mostByCardOf 17 = .ok (.iconst 0, 1) := by decide +kernel
theorem dX3_mostByCardOf_18 : decode cX3_mostByCardOf 18 = .ok (.istore_n 3, 1) := by decide +kernel
theorem dX3_mostByCardOf_19 : decode cX3_mostByCardOf 19 = .ok (.iload_n 3, 1) := by decide +kernel
theorem dX3_mostByCardOf_20 : decode cX3_mostByCardOf 20 = .ok (.aload_n 0, 1) := by decide +kernel
theorem dX3_mostByCardOf_21 : decode cX3_mostByCardOf 21 = .ok (.getfield 24, 3) := by decide +kernel
theorem dX3_mostByCardOf_24 : decode cX3_mostByCardOf 24 = .ok (.getfield 126, 3) := by decide +kernel
theorem dX3_mostByCardOf_27 : decode cX3_mostByCardOf 27 = .ok (.if_icmp .ge 72, 3) := by decide +kernel
theorem dX3_mostByCardOf_30 : decode cX3_mostByCardOf 30 = .ok (.iload_n 3, 1) := by decide +kernel
theorem dX3_mostByCardOf_31 : decode cX3_mostByCardOf 31 = .ok (.iload_n 1, 1) := by decide +kernel
theorem dX3_mostByCardOf_32 : decode cX3_mostByCardOf 32 = .ok (.if_icmp .eq 18, 3) := by decide +kernel
theorem dX3_mostByCardOf_35 : decode cX3_mostByCardOf 35 = .ok (.aload_n 0, 1) := by decide +kernel
theorem dX3_mostByCardOf_36 : decode cX3_mostByCardOf 36 = .ok (.getfield 24, 3) := by decide +kernel
theorem dX3_mostByCardOf_39 : decode cX3_mostByCardOf 39 = .ok (.iload_n 3, 1) := by decide +kernel
theorem dX3_mostByCardOf_40 : decode cX3_mostByCardOf 40 = .ok (.invokevirtual 244, 3) := by decide +kernel
theorem dX3_mostByCardOf_43 : decode cX3_mostByCardOf 43 = .ok (.ifCond .eq 7, 3) := by decide +kernel
theorem dX3_mostByCardOf_46 : decode cX3_mostByCardOf 46 = .ok (.iconst 1, 1) := by decide +kernel
theorem dX3_mostByCardOf_47 : decode cX3_mostByCardOf 47 = .ok (.goto 4, 3) := by decide +kernel
theorem dX3_mostByCardOf_50 : decode cX3_mostByCardOf 50 = .ok (.iconst 0, 1) := by decide +kernel
theorem dX3_mostByCardOf_51 : decode cX3_mostByCardOf 51 = .ok (.istore 4, 2) := by decide +kernel
theorem dX3_mostByCardOf_53 : decode cX3_mostByCardOf 53 = .ok (.aload_n 0, 1) := by decide +kernel
theorem dX3_mostByCardOf_54 : decode cX3_mostByCardOf 54 = .ok (.getfield 44, 3) := by decide +kernel
theorem dX3_mostByCardOf_57 : decode cX3_mostByCardOf 57 = .ok (.iload_n 3, 1) := by decide +kernel
theorem dX3_mostByCardOf_58 : decode cX3_mostByCardOf 58 = .ok (.iload 4, 2) := by decide +kernel
theorem dX3_mostByCardOf_60 : decode cX3_mostByCardOf 60 = .ok (.ifCond .eq 23, 3) := by decide +kernel
theorem dX3_mostByCardOf_63 : decode cX3_mostByCardOf 63 = .ok (.aload_n 0, 1) := by decide +kernel
theorem dX3_mostByCardOf_64 : decode cX3_mostByCardOf 64 = .ok (.getfield 24, 3) := by decide +kernel
theorem dX3_mostByCardOf_67 : decode cX3_mostByCardOf 67 = .ok (.getfield 203, 3) := by decide +kernel
theorem dX3_mostByCardOf_70 : decode cX3_mostByCardOf 70 = .ok (.iload_n 3, 1) := by decide +kernel
theorem dX3_mostByCardOf_71 : decode cX3_mostByCardOf 71 = .ok (.iaload, 1) := by decide +kernel
theorem dX3_mostByCardOf_72 : decode cX3_mostByCardOf 72 = .ok (.iload_n 2, 1) := by decide +kernel
theorem dX3_mostByCardOf_73 : decode cX3_mostByCardOf 73 = .ok (.iconst 1, 1) := by decide +kernel
theorem dX3_mostByCardOf_74 : decode cX3_mostByCardOf 74 = .ok (.iload_n 3, 1) := by decide +kernel
theorem dX3_mostByCardOf_75 : decode cX3_mostByCardOf 75 = .ok (.ishl, 1) := by decide +kernel
theorem dX3_mostByCardOf_76 : decode cX3_mostByCardOf 76 = .ok (.iconst (-1), 1) := by decide +kernel
theorem dX3_mostByCardOf_77 : decode cX3_mostByCardOf 77 = .ok (.ixor, 1) := by decide +kernel
theorem dX3_mostByCardOf_78 : decode cX3_mostByCardOf 78 = .ok (.iand, 1) := by decide +kernel
theorem dX3_mostByCardOf_79 : decode cX3_mostByCardOf 79 = .ok (.ior, 1) := by decide +kernel
theorem dX3_mostByCardOf_80 : decode cX3_mostByCardOf 80 = .ok (.goto 12, 3) := by decide +kernel
theorem dX3_mostByCardOf_83 : decode cX3_mostByCardOf 83 = .ok (.aload_n 0, 1) := by decide +kernel
theorem dX3_mostByCardOf_84 : decode cX3_mostByCardOf 84 = .ok (.getfield 24, 3) := by decide +kernel
theorem dX3_mostByCardOf_87 : decode cX3_mostByCardOf 87 = .ok (.getfield 203, 3) := by decide +kernel
theorem dX3_mostByCardOf_90 : decode cX3_mostByCardOf 90 = .ok (.iload_n 3, 1) := by decide +kernel
theorem dX3_mostByCardOf_91 : decode cX3_mostByCardOf 91 = .ok (.iaload, 1) := by decide +kernel
theorem dX3_mostByCardOf_92 : decode cX3_mostByCardOf 92 = .ok (.iastore, 1) := by decide +kernel
theorem dX3_mostByCardOf_93 : decode cX3_mostByCardOf 93 = .ok (.iinc 3 1, 3) := by decide +kernel
theorem dX3_mostByCardOf_96 : decode cX3_mostByCardOf 96 = .ok (.goto (-77), 3) := by decide +kernel
theorem dX3_mostByCardOf_99 : decode cX3_mostByCardOf 99 = .ok (.aload_n 0, 1) := by decide +kernel
theorem dX3_mostByCardOf_100 : decode cX3_mostByCardOf 100 = .ok (.getfield 31, 3) := by decide +kernel
theorem dX3_mostByCardOf_103 : decode cX3_mostByCardOf 103 = .ok (.aload_n 0, 1) := by decide +kernel
theorem dX3_mostByCardOf_104 : decode cX3_mostByCardOf 104 = .ok (.getfield 24, 3) := by decide +kernel
theorem dX3_mostByCardOf_107 : decode cX3_mostByCardOf 107 = .ok (.aload_n 0, 1) := by decide +kernel
theorem dX3_mostByCardOf_108 : decode cX3_mostByCardOf 108 = .ok (.getfield 44, 3) := by decide +kernel
theorem dX3_mostByCardOf_111 : decode cX3_mostByCardOf 111 = .ok (.invokevirtual 206, 3) := by decide +kernel
theorem dX3_mostByCardOf_114 : decode cX3_mostByCardOf 114 = .ok (.aload_n 0, 1) := by decide +kernel
theorem dX3_mostByCardOf_115 : decode cX3_mostByCardOf 115 = .ok (.getfield 31, 3) := by decide +kernel
theorem dX3_mostByCardOf_118 : decode cX3_mostByCardOf 118 = .ok (.invokevirtual 210, 3) := by decide +kernel
theorem dX3_mostByCardOf_121 : decode cX3_mostByCardOf 121 = .ok (.aload_n 0, 1) := by decide +kernel
theorem dX3_mostByCardOf_122 : decode cX3_mostByCardOf 122 = .ok (.getfield 31, 3) := by decide +kernel
theorem dX3_mostByCardOf_125 : decode cX3_mostByCardOf 125 = .ok (.getfield 213, 3) := by decide +kernel
theorem dX3_mostByCardOf_128 : decode cX3_mostByCardOf 128 = .ok (.aload_n 0, 1) := by decide +kernel
theorem dX3_mostByCardOf_129 : decode cX3_mostByCardOf 129 = .ok (.getfield 31, 3) := by decide +kernel
theorem dX3_mostByCardOf_132 : decode cX3_mostByCardOf 132 = .ok (.getfield 216, 3) := by decide +kernel
theorem dX3_mostByCardOf_135 : decode cX3_mostByCardOf 135 = .ok (.iaload, 1) := by decide +kernel
theorem dX3_mostByCardOf_136 : decode cX3_mostByCardOf 136 = .ok (.ireturn, 1) := by decide +kernel
theorem dX3_kindsByPairs_0 : decode cX3_kindsByPairs 0 = .ok (.iconst 0, 1) := by decide +kernel
theorem dX3_kindsByPairs_1 : decode cX3_kindsByPairs 1 = .ok (.istore_n 3, 1) := by decide +kernel
theorem dX3_kindsByPairs_2 : decode cX3_kindsByPairs 2 = .ok (.iconst 0, 1) := by decide +kernel
theorem dX3_kindsByPairs_3 : decode cX3_kindsByPairs 3 = .ok (.istore 4, 2) := by decide +kernel
theorem dX3_kindsByPairs_5 : decode cX3_kindsByPairs 5 = .ok (.iload 4, 2) := by decide +kernel
theorem dX3_kindsByPairs_7 : decode cX3_kindsByPairs 7 = .ok (.bipush 6, 2) := by decide +kernel
theorem dX3_kindsByPairs_9 : decode cX3_kindsByPairs 9 = .ok (.if_icmp .ge 27, 3) := by decide +kernel
theorem dX3_kindsByPairs_12 : decode cX3_kindsByPairs 12 = .ok (.aload_n 0, 1) := by decide +kernel
theorem dX3_kindsByPairs_13 : decode cX3_kindsByPairs 13 = .ok (.iload 4, 2) := by decide +kernel
theorem dX3_kindsByPairs_15 : decode cX3_kindsByPairs 15 = .ok (.iload_n 1, 1) := by decide +kernel
theorem dX3_kindsByPairs_16 : decode cX3_kindsByPairs 16 = .ok (.iload_n 2, 1) := by decide +kernel
theorem dX3_kindsByPairs_17 : decode cX3_kindsByPairs 17 = .ok (.invokevirtual 335, 3) := by decide +kernel
theorem dX3_kindsByPairs_20 : decode cX3_kindsByPairs 20 = .ok (.ifCond .eq 10, 3) := by decide +kernel
theorem dX3_kindsByPairs_23 : decode cX3_kindsByPairs 23 = .ok (.iload_n 3, 1) := by decide +kernel
theorem dX3_kindsByPairs_24 : decode cX3_kindsByPairs 24 = .ok (.iconst 1, 1) := by decide +kernel
theorem dX3_kindsByPairs_25 : decode cX3_kindsByPairs 25 = .ok (.iload 4, 2) := by decide +kernel
theorem dX3_kindsByPairs_27 : decode cX3_kindsByPairs 27 = .ok (.ishl, 1) := by decide +kernel
theorem dX3_kindsByPairs_28 : decode cX3_kindsByPairs 28 = .ok (.ior, 1) := by decide +kernel
theorem dX3_kindsByPairs_29 : decode cX3_kindsByPairs 29 = .ok (.istore_n 3, 1) := by decide +kernel
theorem dX3_kindsByPairs_30 : decode cX3_kindsByPairs 30 = .ok (.iinc 4 1, 3) := by decide +kernel
theorem dX3_kindsByPairs_33 : decode cX3_kindsByPairs 33 = .ok (.goto (-28), 3) := by decide +kernel
theorem dX3_kindsByPairs_36 : decode cX3_kindsByPairs 36 = .ok (.iload_n 3, 1) := by decide +kernel
theorem dX3_kindsByPairs_37 : decode cX3_kindsByPairs 37 = .ok (.ireturn, 1) := by decide +kernel
theorem dX3_fitsPairs_0 : decode cX3_fitsPairs 0 = .ok (.aload_n 0, 1) := by decide +kernel
theorem dX3_fitsPairs_1 : decode cX3_fitsPairs 1 = .ok (.getfield 14, 3) := by decide +kernel
theorem dX3_fitsPairs_4 : decode cX3_fitsPairs 4 = .ok (.getfield 81, 3) := by decide +kernel
theorem dX3_fitsPairs_7 : decode cX3_fitsPairs 7 = .ok (.iload_n 3, 1) := by decide +kernel
theorem dX3_fitsPairs_8 : decode cX3_fitsPairs 8 = .ok (.aaload, 1) := by decide +kernel
theorem dX3_fitsPairs_9 : decode cX3_fitsPairs 9 = .ok (.astore 4, 2) := by decide +kernel
theorem dX3_fitsPairs_11 : decode cX3_fitsPairs 11 = .ok (.iconst 0, 1) := by decide +kernel
theorem dX3_fitsPairs_12 : decode cX3_fitsPairs 12 = .ok (.istore 5, 2) := by decide +kernel
theorem dX3_fitsPairs_14 : decode cX3_fitsPairs 14 = .ok (.iload 5, 2) := by decide +kernel
theorem dX3_fitsPairs_16 : decode cX3_fitsPairs 16 = .ok (.iconst 1, 1) := by decide +kernel
theorem dX3_fitsPairs_17 : decode cX3_fitsPairs 17 = .ok (.iadd, 1) := by decide +kernel
theorem dX3_fitsPairs_18 : decode cX3_fitsPairs 18 = .ok (.aload_n 0, 1) := by decide +kernel
theorem dX3_fitsPairs_19 : decode cX3_fitsPairs 19 = .ok (.getfield 14, 3) := by decide +kernel
theorem dX3_fitsPairs_22 : decode cX3_fitsPairs 22 = .ok (.getfield 92, 3) := by decide +kernel
theorem dX3_fitsPairs_25 : decode cX3_fitsPairs 25 = .ok (.iload_n 3, 1) := by decide +kernel
theorem dX3_fitsPairs_26 : decode cX3_fitsPairs 26 = .ok (.iaload, 1) := by decide +kernel
theorem dX3_fitsPairs_27 : decode cX3_fitsPairs 27 = .ok (.if_icmp .ge 31, 3) := by decide +kernel
theorem dX3_fitsPairs_30 : decode cX3_fitsPairs 30 = .ok (.iload_n 1, 1) := by decide +kernel
theorem dX3_fitsPairs_31 : decode cX3_fitsPairs 31 = .ok (.iload_n 2, 1) := by decide +kernel
theorem dX3_fitsPairs_32 : decode cX3_fitsPairs 32 = .ok (.aload 4, 2) := by decide +kernel
theorem dX3_fitsPairs_34 : decode cX3_fitsPairs 34 = .ok (.iload 5, 2) := by decide +kernel
theorem dX3_fitsPairs_36 : decode cX3_fitsPairs 36 = .ok (.iaload, 1) := by decide +kernel
theorem dX3_fitsPairs_37 : decode cX3_fitsPairs 37 = .ok (.invokestatic 158, 3) := by decide +kernel
theorem dX3_fitsPairs_40 : decode cX3_fitsPairs 40 = .ok (.aload 4, 2) := by decide +kernel
theorem dX3_fitsPairs_42 : decode cX3_fitsPairs 42 = .ok (.iload 5, 2) := by decide +kernel
theorem dX3_fitsPairs_44 : decode cX3_fitsPairs 44 = .ok (.iconst 1, 1) := by decide +kernel
theorem dX3_fitsPairs_45 : decode cX3_fitsPairs 45 = .ok (.iadd, 1) := by decide +kernel
theorem dX3_fitsPairs_46 : decode cX3_fitsPairs 46 = .ok (.iaload, 1) := by decide +kernel
theorem dX3_fitsPairs_47 : decode cX3_fitsPairs 47 = .ok (.if_icmp .eq 5, 3) := by decide +kernel
theorem dX3_fitsPairs_50 : decode cX3_fitsPairs 50 = .ok (.iconst 0, 1) := by decide +kernel
theorem dX3_fitsPairs_51 : decode cX3_fitsPairs 51 = .ok (.ireturn, 1) := by decide +kernel
theorem dX3_fitsPairs_52 : decode cX3_fitsPairs 52 = .ok (.iinc 5 2, 3) := by decide +kernel
theorem dX3_fitsPairs_55 : decode cX3_fitsPairs 55 = .ok (.goto (-41), 3) := by decide +kernel
theorem dX3_fitsPairs_58 : decode cX3_fitsPairs 58 = .ok (.iconst 1, 1) := by decide +kernel
theorem dX3_fitsPairs_59 : decode cX3_fitsPairs 59 = .ok (.ireturn, 1) := by decide +kernel
theorem dX3_doByLot_0 : decode cX3_doByLot 0 = .ok (.iload_n 1, 1) := by decide +kernel
theorem dX3_doByLot_1 : decode cX3_doByLot 1 = .ok (.bipush 8, 2) := by decide +kernel
theorem dX3_doByLot_3 : decode cX3_doByLot 3 = .ok (.idiv, 1) := by decide +kernel
theorem dX3_doByLot_4 : decode cX3_doByLot 4 = .ok (.aload_n 0, 1) := by decide +kernel
theorem dX3_doByLot_5 : decode cX3_doByLot 5 = .ok (.getfield 24, 3) := by decide +kernel
theorem dX3_doByLot_8 : decode cX3_doByLot 8 = .ok (.getfield 126, 3) := by decide +kernel
theorem dX3_doByLot_11 : decode cX3_doByLot 11 = .ok (.irem, 1) := by decide +kernel
theorem dX3_doByLot_12 : decode cX3_doByLot 12 = .ok (.istore_n 2, 1) := by decide +kernel
theorem dX3_doByLot_13 : decode cX3_doByLot 13 = .ok (.iload_n 1, 1) := by decide +kernel
theorem dX3_doByLot_14 : decode cX3_doByLot 14 = .ok (.bipush 64, 2) := by decide +kernel
theorem dX3_doByLot_16 : decode cX3_doByLot 16 = .ok (.idiv, 1) := by decide +kernel
theorem dX3_doByLot_17 : decode cX3_doByLot 17 = .ok (.aload_n 0, 1) := by decide +kernel
theorem dX3_doByLot_18 : decode cX3_doByLot 18 = .ok (.getfield 24, 3) := by decide +kernel
theorem dX3_doByLot_21 : decode cX3_doByLot 21 = .ok (.getfield 126, 3) := by decide +kernel
theorem dX3_doByLot_24 : decode cX3_doByLot 24 = .ok (.irem, 1) := by decide +kernel
theorem dX3_doByLot_25 : decode cX3_doByLot 25 = .ok (.istore_n 3, 1) := by decide +kernel
theorem dX3_doByLot_26 : decode cX3_doByLot 26 = .ok (.iload_n 1, 1) := by decide +kernel
theorem dX3_doByLot_27 : decode cX3_doByLot 27 = .ok (.iconst 4, 1) := by decide +kernel
theorem dX3_doByLot_28 : decode cX3_doByLot 28 = .ok (.irem, 1) := by decide +kernel
theorem dX3_doByLot_29 : decode cX3_doByLot 29 = .ok (.tableswitch 112 0 2 #[27, 56, 84], 27) := by decide +kernel
theorem dX3_doByLot_56 : decode cX3_doByLot 56 = .ok (.aload_n 0, 1) := by decide +kernel
theorem dX3_doByLot_57 : decode cX3_doByLot 57 = .ok (.getfield 24, 3) := by decide +kernel
theorem dX3_doByLot_60 : decode cX3_doByLot 60 = .ok (.aload_n 0, 1) := by decide +kernel
theorem dX3_doByLot_61 : decode cX3_doByLot 61 = .ok (.getfield 24, 3) := by decide +kernel
theorem dX3_doByLot_64 : decode cX3_doByLot 64 = .ok (.iload_n 2, 1) := by decide +kernel
theorem dX3_doByLot_65 : decode cX3_doByLot 65 = .ok (.iload_n 3, 1) := by decide +kernel
theorem dX3_doByLot_66 : decode cX3_doByLot 66 = .ok (.invokevirtual 162, 3) := by decide +kernel
theorem dX3_doByLot_69 : decode cX3_doByLot 69 = .ok (.ifCond .eq 7, 3) := by decide +kernel
theorem dX3_doByLot_72 : decode cX3_doByLot 72 = .ok (.iconst 1, 1) := by decide +kernel
theorem dX3_doByLot_73 : decode cX3_doByLot 73 = .ok (.goto 4, 3) := by decide +kernel
theorem dX3_doByLot_76 : decode cX3_doByLot 76 = .ok (.iconst 0, 1) := by decide +kernel
theorem dX3_doByLot_77 : decode cX3_doByLot 77 = .ok (.iload_n 2, 1) := by decide +kernel
theorem dX3_doByLot_78 : decode cX3_doByLot 78 = .ok (.iload_n 3, 1) := by decide +kernel
theorem dX3_doByLot_79 : decode cX3_doByLot 79 = .ok (.invokevirtual 172, 3) := by decide +kernel
theorem dX3_doByLot_82 : decode cX3_doByLot 82 = .ok (.goto 84, 3) := by decide +kernel
theorem dX3_doByLot_85 : decode cX3_doByLot 85 = .ok (.aload_n 0, 1) := by decide +kernel
theorem dX3_doByLot_86 : decode cX3_doByLot 86 = .ok (.getfield 24, 3) := by decide +kernel
theorem dX3_doByLot_89 : decode cX3_doByLot 89 = .ok (.aload_n 0, 1) := by decide +kernel
theorem dX3_doByLot_90 : decode cX3_doByLot 90 = .ok (.getfield 24, 3) := by decide +kernel
theorem dX3_doByLot_93 : decode cX3_doByLot 93 = .ok (.iload_n 2, 1) := by decide +kernel
theorem dX3_doByLot_94 : decode cX3_doByLot 94 = .ok (.invokevirtual 244, 3) := by decide +kernel
theorem dX3_doByLot_97 : decode cX3_doByLot 97 = .ok (.ifCond .eq 7, 3) := by decide +kernel
theorem dX3_doByLot_100 : decode cX3_doByLot 100 = .ok (.iconst 2, 1) := by decide +kernel
theorem dX3_doByLot_101 : decode cX3_doByLot 101 = .ok (.goto 4, 3) := by decide +kernel
theorem dX3_doByLot_104 : decode cX3_doByLot 104 = .ok (.iconst 0, 1) := by decide +kernel
theorem dX3_doByLot_105 : decode cX3_doByLot 105 = .ok (.iload_n 2, 1) := by decide +kernel
theorem dX3_doByLot_106 : decode cX3_doByLot 106 = .ok (.iload_n 3, 1) := by decide +kernel
theorem dX3_doByLot_107 : decode cX3_doByLot 107 = .ok (.invokevirtual 172, 3) := by decide +kernel
theorem dX3_doByLot_110 : decode cX3_doByLot 110 = .ok (.goto 56, 3) := by decide +kernel
theorem dX3_doByLot_113 : decode cX3_doByLot 113 = .ok (.aload_n 0, 1) := by decide +kernel
theorem dX3_doByLot_114 : decode cX3_doByLot 114 = .ok (.getfield 24, 3) := by decide +kernel
theorem dX3_doByLot_117 : decode cX3_doByLot 117 = .ok (.aload_n 0, 1) := by decide +kernel
theorem dX3_doByLot_118 : decode cX3_doByLot 118 = .ok (.getfield 24, 3) := by decide +kernel
theorem dX3_doByLot_121 : decode cX3_doByLot 121 = .ok (.iload_n 2, 1) := by decide +kernel
theorem dX3_doByLot_122 : decode cX3_doByLot 122 = .ok (.invokevirtual 244, 3) := by decide +kernel
theorem dX3_doByLot_125 : decode cX3_doByLot 125 = .ok (.ifCond .eq 7, 3) := by decide +kernel
theorem dX3_doByLot_128 : decode cX3_doByLot 128 = .ok (.iconst 3, 1) := by decide +kernel
theorem dX3_doByLot_129 : decode cX3_doByLot 129 = .ok (.goto 4, 3) := by decide +kernel
theorem dX3_doByLot_132 : decode cX3_doByLot 132 = .ok (.iconst 0, 1) := by decide +kernel
theorem dX3_doByLot_133 : decode cX3_doByLot 133 = .ok (.iload_n 2, 1) := by decide +kernel
theorem dX3_doByLot_134 : decode cX3_doByLot 134 = .ok (.iload_n 3, 1) := by decide +kernel
theorem dX3_doByLot_135 : decode cX3_doByLot 135 = .ok (.invokevirtual 172, 3) := by decide +kernel
theorem dX3_doByLot_138 : decode cX3_doByLot 138 = .ok (.goto 28, 3) := by decide +kernel
theorem dX3_doByLot_141 : decode cX3_doByLot 141 = .ok (.aload_n 0, 1) := by decide +kernel
theorem dX3_doByLot_142 : decode cX3_doByLot 142 = .ok (.getfield 24, 3) := by decide +kernel
theorem dX3_doByLot_145 : decode cX3_doByLot 145 = .ok (.aload_n 0, 1) := by decide +kernel
theorem dX3_doByLot_146 : decode cX3_doByLot 146 = .ok (.getfield 24, 3) := by decide +kernel
theorem dX3_doByLot_149 : decode cX3_doByLot 149 = .ok (.iload_n 2, 1) := by decide +kernel
theorem dX3_doByLot_150 : decode cX3_doByLot 150 = .ok (.invokevirtual 182, 3) := by decide +kernel
theorem dX3_doByLot_153 : decode cX3_doByLot 153 = .ok (.ifCond .eq 7, 3) := by decide +kernel
theorem dX3_doByLot_156 : decode cX3_doByLot 156 = .ok (.iconst 4, 1) := by decide +kernel
theorem dX3_doByLot_157 : decode cX3_doByLot 157 = .ok (.goto 4, 3) := by decide +kernel
theorem dX3_doByLot_160 : decode cX3_doByLot 160 = .ok (.iconst 0, 1) := by decide +kernel
theorem dX3_doByLot_161 : decode cX3_doByLot 161 = .ok (.iload_n 2, 1) := by decide +kernel
theorem dX3_doByLot_162 : decode cX3_doByLot 162 = .ok (.iload_n 3, 1) := by decide +kernel
theorem dX3_doByLot_163 : decode cX3_doByLot 163 = .ok (.invokevirtual 172, 3) := by decide +kernel
theorem dX3_doByLot_166 : decode cX3_doByLot 166 = .ok (.return_, 1) := by decide +kernel
theorem dX3_weightOf_0 : decode cX3_weightOf 0 = .ok (.iload_n 1, 1) := by decide +kernel
theorem dX3_weightOf_1 : decode cX3_weightOf 1 = .ok (.invokestatic 140, 3) := by decide +kernel
theorem dX3_weightOf_4 : decode cX3_weightOf 4 = .ok (.istore_n 3, 1) := by decide +kernel
theorem dX3_weightOf_5 : decode cX3_weightOf 5 = .ok (.aload_n 0, 1) := by decide +kernel
theorem dX3_weightOf_6 : decode cX3_weightOf 6 = .ok (.getfield 31, 3) := by decide +kernel
theorem dX3_weightOf_9 : decode cX3_weightOf 9 = .ok (.getfield 216, 3) := by decide +kernel
theorem dX3_weightOf_12 : decode cX3_weightOf 12 = .ok (.invokestatic 140, 3) := by decide +kernel
theorem dX3_weightOf_15 : decode cX3_weightOf 15 = .ok (.iload_n 3, 1) := by decide +kernel
theorem dX3_weightOf_16 : decode cX3_weightOf 16 = .ok (.isub, 1) := by decide +kernel
theorem dX3_weightOf_17 : decode cX3_weightOf 17 = .ok (.istore 4, 2) := by decide +kernel
theorem dX3_weightOf_19 : decode cX3_weightOf 19 = .ok (.bipush 12, 2) := by decide +kernel
theorem dX3_weightOf_21 : decode cX3_weightOf 21 = .ok (.iload_n 2, 1) := by decide +kernel
theorem dX3_weightOf_22 : decode cX3_weightOf 22 = .ok (.isub, 1) := by decide +kernel
theorem dX3_weightOf_23 : decode cX3_weightOf 23 = .ok (.iload_n 3, 1) := by decide +kernel
theorem dX3_weightOf_24 : decode cX3_weightOf 24 = .ok (.invokestatic 295, 3) := by decide +kernel
theorem dX3_weightOf_27 : decode cX3_weightOf 27 = .ok (.iload_n 2, 1) := by decide +kernel
theorem dX3_weightOf_28 : decode cX3_weightOf 28 = .ok (.iload 4, 2) := by decide +kernel
theorem dX3_weightOf_30 : decode cX3_weightOf 30 = .ok (.invokestatic 295, 3) := by decide +kernel
theorem dX3_weightOf_33 : decode cX3_weightOf 33 = .ok (.lmul, 1) := by decide +kernel
theorem dX3_weightOf_34 : decode cX3_weightOf 34 = .ok (.lreturn, 1) := by decide +kernel
theorem dX3_greatestPart_0 : decode cX3_greatestPart 0 = .ok (.iconst 0, 1) := by decide +kernel
theorem dX3_greatestPart_1 : decode cX3_greatestPart 1 = .ok (.istore_n 3, 1) := by decide +kernel
theorem dX3_greatestPart_2 : decode cX3_greatestPart 2 = .ok (.iconst 0, 1) := by decide +kernel
theorem dX3_greatestPart_3 : decode cX3_greatestPart 3 = .ok (.istore 4, 2) := by decide +kernel
theorem dX3_greatestPart_5 : decode cX3_greatestPart 5 = .ok (.iload 4, 2) := by decide +kernel
theorem dX3_greatestPart_7 : decode cX3_greatestPart 7 = .ok (.bipush 6, 2) := by decide +kernel
theorem dX3_greatestPart_9 : decode cX3_greatestPart 9 = .ok (.if_icmp .ge 85, 3) := by decide +kernel
theorem dX3_greatestPart_12 : decode cX3_greatestPart 12 = .ok (.iconst 0, 1) := by decide +kernel
theorem dX3_greatestPart_13 : decode cX3_greatestPart 13 = .ok (.istore 5, 2) := by decide +kernel
theorem dX3_greatestPart_15 : decode cX3_greatestPart 15 = .ok (.iconst 0, 1) := by decide +kernel
theorem dX3_greatestPart_16 : decode cX3_greatestPart 16 = .ok (.istore 6, 2) := by decide +kernel
theorem dX3_greatestPart_18 : decode cX3_greatestPart 18 = .ok (.iload 6, 2) := by decide +kernel
theorem dX3_greatestPart_20 : decode cX3_greatestPart 20 = .ok (.bipush 6, 2) := by decide +kernel
theorem dX3_greatestPart_22 : decode cX3_greatestPart 22 = .ok (.if_icmp .ge 59, 3) := by decide +kernel
theorem dX3_greatestPart_25 : decode cX3_greatestPart 25 = .ok (.iload_n 0, 1) := by decide +kernel
theorem dX3_greatestPart_26 : decode cX3_greatestPart 26 = .ok (.iload 4, 2) := by decide +kernel
theorem dX3_greatestPart_28 : decode cX3_greatestPart 28 = .ok (.invokestatic 338, 3) := by decide +kernel
theorem dX3_greatestPart_31 : decode cX3_greatestPart 31 = .ok (.ifCond .eq 16, 3) := by decide +kernel
theorem dX3_greatestPart_34 : decode cX3_greatestPart 34 = .ok (.iload_n 0, 1) := by decide +kernel
theorem dX3_greatestPart_35 : decode cX3_greatestPart 35 = .ok (.iload 6, 2) := by decide +kernel
theorem dX3_greatestPart_37 : decode cX3_greatestPart 37 = .ok (.invokestatic 338, 3) := by decide +kernel
theorem dX3_greatestPart_40 : decode cX3_greatestPart 40 = .ok (.ifCond .eq 7, 3) := by decide +kernel
theorem dX3_greatestPart_43 : decode cX3_greatestPart 43 = .ok (.iconst 1, 1) := by decide +kernel
theorem dX3_greatestPart_44 : decode cX3_greatestPart 44 = .ok (.goto 4, 3) := by decide +kernel
theorem dX3_greatestPart_47 : decode cX3_greatestPart 47 = .ok (.iconst 0, 1) := by decide +kernel
theorem dX3_greatestPart_48 : decode cX3_greatestPart 48 = .ok (.istore 7, 2) := by decide +kernel
theorem dX3_greatestPart_50 : decode cX3_greatestPart 50 = .ok (.iload 7, 2) := by decide +kernel
theorem dX3_greatestPart_52 : decode cX3_greatestPart 52 = .ok (.ifCond .eq 23, 3) := by decide +kernel
theorem dX3_greatestPart_55 : decode cX3_greatestPart 55 = .ok (.iload 4, 2) := by decide +kernel
theorem dX3_greatestPart_57 : decode cX3_greatestPart 57 = .ok (.iload_n 1, 1) := by decide +kernel
theorem dX3_greatestPart_58 : decode cX3_greatestPart 58 = .ok (.iload_n 2, 1) := by decide +kernel
theorem dX3_greatestPart_59 : decode cX3_greatestPart 59 = .ok (.invokestatic 158, 3) := by decide +kernel
theorem dX3_greatestPart_62 : decode cX3_greatestPart 62 = .ok (.iload 6, 2) := by decide +kernel
theorem dX3_greatestPart_64 : decode cX3_greatestPart 64 = .ok (.iload_n 1, 1) := by decide +kernel
theorem dX3_greatestPart_65 : decode cX3_greatestPart 65 = .ok (.iload_n 2, 1) := by decide +kernel
theorem dX3_greatestPart_66 : decode cX3_greatestPart 66 = .ok (.invokestatic 158, 3) := by decide +kernel
theorem dX3_greatestPart_69 : decode cX3_greatestPart 69 = .ok (.if_icmp .ne 6, 3) := by decide +kernel
theorem dX3_greatestPart_72 : decode cX3_greatestPart 72 = .ok (.iinc 5 1, 3) := by decide +kernel
theorem dX3_greatestPart_75 : decode cX3_greatestPart 75 = .ok (.iinc 6 1, 3) := by decide +kernel
theorem dX3_greatestPart_78 : decode cX3_greatestPart 78 = .ok (.goto (-60), 3) := by decide +kernel
theorem dX3_greatestPart_81 : decode cX3_greatestPart 81 = .ok (.iload_n 3, 1) := by decide +kernel
theorem dX3_greatestPart_82 : decode cX3_greatestPart 82 = .ok (.iload 5, 2) := by decide +kernel
theorem dX3_greatestPart_84 : decode cX3_greatestPart 84 = .ok (.invokestatic 341, 3) := by decide +kernel
theorem dX3_greatestPart_87 : decode cX3_greatestPart 87 = .ok (.istore_n 3, 1) := by decide +kernel
theorem dX3_greatestPart_88 : decode cX3_greatestPart 88 = .ok (.iinc 4 1, 3) := by decide +kernel
theorem dX3_greatestPart_91 : decode cX3_greatestPart 91 = .ok (.goto (-86), 3) := by decide +kernel
theorem dX3_greatestPart_94 : decode cX3_greatestPart 94 = .ok (.iload_n 3, 1) := by decide +kernel
theorem dX3_greatestPart_95 : decode cX3_greatestPart 95 = .ok (.ireturn, 1) := by decide +kernel
theorem dX3_tellingAs_0 : decode cX3_tellingAs 0 = .ok (.iconst 1, 1) := by decide +kernel
theorem dX3_tellingAs_1 : decode cX3_tellingAs 1 = .ok (.iload_n 1, 1) := by decide +kernel
theorem dX3_tellingAs_2 : decode cX3_tellingAs 2 = .ok (.ishl, 1) := by decide +kernel
theorem dX3_tellingAs_3 : decode cX3_tellingAs 3 = .ok (.istore_n 3, 1) := by decide +kernel
theorem dX3_tellingAs_4 : decode cX3_tellingAs 4 = .ok (.iload_n 0, 1) := by decide +kernel
theorem dX3_tellingAs_5 : decode cX3_tellingAs 5 = .ok (.tableswitch 39 3 5 #[27, 29, 33], 27) := by decide +kernel
theorem dX3_tellingAs_32 : decode cX3_tellingAs 32 = .ok (.iconst 0, 1) := by decide +kernel
theorem dX3_tellingAs_33 : decode cX3_tellingAs 33 = .ok (.ireturn, 1) := by decide +kernel
theorem dX3_tellingAs_34 : decode cX3_tellingAs 34 = .ok (.iload_n 2, 1) := by decide +kernel
theorem dX3_tellingAs_35 : decode cX3_tellingAs 35 = .ok (.iload_n 3, 1) := by decide +kernel
theorem dX3_tellingAs_36 : decode cX3_tellingAs 36 = .ok (.ior, 1) := by decide +kernel
theorem dX3_tellingAs_37 : decode cX3_tellingAs 37 = .ok (.ireturn, 1) := by decide +kernel
theorem dX3_tellingAs_38 : decode cX3_tellingAs 38 = .ok (.iload_n 2, 1) := by decide +kernel
theorem dX3_tellingAs_39 : decode cX3_tellingAs 39 = .ok (.iload_n 3, 1) := by decide +kernel
theorem dX3_tellingAs_40 : decode cX3_tellingAs 40 = .ok (.iconst (-1), 1) := by decide +kernel
theorem dX3_tellingAs_41 : decode cX3_tellingAs 41 = .ok (.ixor, 1) := by decide +kernel
theorem dX3_tellingAs_42 : decode cX3_tellingAs 42 = .ok (.iand, 1) := by decide +kernel
theorem dX3_tellingAs_43 : decode cX3_tellingAs 43 = .ok (.ireturn, 1) := by decide +kernel
theorem dX3_tellingAs_44 : decode cX3_tellingAs 44 = .ok (.iload_n 3, 1) := by decide +kernel
theorem dX3_tellingAs_45 : decode cX3_tellingAs 45 = .ok (.ireturn, 1) := by decide +kernel
theorem dX3_isIn_0 : decode cX3_isIn 0 = .ok (.iload_n 0, 1) := by decide +kernel
theorem dX3_isIn_1 : decode cX3_isIn 1 = .ok (.iload_n 1, 1) := by decide +kernel
theorem dX3_isIn_2 : decode cX3_isIn 2 = .ok (.ishr, 1) := by decide +kernel
theorem dX3_isIn_3 : decode cX3_isIn 3 = .ok (.iconst 1, 1) := by decide +kernel
theorem dX3_isIn_4 : decode cX3_isIn 4 = .ok (.iand, 1) := by decide +kernel
theorem dX3_isIn_5 : decode cX3_isIn 5 = .ok (.ifCond .eq 7, 3) := by decide +kernel
theorem dX3_isIn_8 : decode cX3_isIn 8 = .ok (.iconst 1, 1) := by decide +kernel
theorem dX3_isIn_9 : decode cX3_isIn 9 = .ok (.goto 4, 3) := by decide +kernel
theorem dX3_isIn_12 : decode cX3_isIn 12 = .ok (.iconst 0, 1) := by decide +kernel
theorem dX3_isIn_13 : decode cX3_isIn 13 = .ok (.ireturn, 1) := by decide +kernel
theorem dX3_power_0 : decode cX3_power 0 = .ok (.lconst 1, 1) := by decide +kernel
theorem dX3_power_1 : decode cX3_power 1 = .ok (.lstore_n 2, 1) := by decide +kernel
theorem dX3_power_2 : decode cX3_power 2 = .ok (.iconst 0, 1) := by decide +kernel
theorem dX3_power_3 : decode cX3_power 3 = .ok (.istore 4, 2) := by decide +kernel
theorem dX3_power_5 : decode cX3_power 5 = .ok (.iload 4, 2) := by decide +kernel
theorem dX3_power_7 : decode cX3_power 7 = .ok (.iload_n 1, 1) := by decide +kernel
theorem dX3_power_8 : decode cX3_power 8 = .ok (.if_icmp .ge 14, 3) := by decide +kernel
theorem dX3_power_11 : decode cX3_power 11 = .ok (.lload_n 2, 1) := by decide +kernel
theorem dX3_power_12 : decode cX3_power 12 = .ok (.iload_n 0, 1) := by decide +kernel
theorem dX3_power_13 : decode cX3_power 13 = .ok (.i2l, 1) := by decide +kernel
theorem dX3_power_14 : decode cX3_power 14 = .ok (.lmul, 1) := by decide +kernel
theorem dX3_power_15 : decode cX3_power 15 = .ok (.lstore_n 2, 1) := by decide +kernel
theorem dX3_power_16 : decode cX3_power 16 = .ok (.iinc 4 1, 3) := by decide +kernel
theorem dX3_power_19 : decode cX3_power 19 = .ok (.goto (-14), 3) := by decide +kernel
theorem dX3_power_22 : decode cX3_power 22 = .ok (.lload_n 2, 1) := by decide +kernel
theorem dX3_power_23 : decode cX3_power 23 = .ok (.lreturn, 1) := by decide +kernel
theorem dX3_commonDivisor_0 : decode cX3_commonDivisor 0 = .ok (.lload_n 0, 1) := by decide +kernel
theorem dX3_commonDivisor_1 : decode cX3_commonDivisor 1 = .ok (.lstore 4, 2) := by decide +kernel
theorem dX3_commonDivisor_3 : decode cX3_commonDivisor 3 = .ok (.lload_n 2, 1) := by decide +kernel
theorem dX3_commonDivisor_4 : decode cX3_commonDivisor 4 = .ok (.lstore 6, 2) := by decide +kernel
theorem dX3_commonDivisor_6 : decode cX3_commonDivisor 6 = .ok (.iconst 0, 1) := by decide +kernel
theorem dX3_commonDivisor_7 : decode cX3_commonDivisor 7 = .ok (.istore 8, 2) := by decide +kernel
theorem dX3_commonDivisor_9 : decode cX3_commonDivisor 9 = .ok (.iload 8, 2) := by decide +kernel
theorem dX3_commonDivisor_11 : decode cX3_commonDivisor 11 = .ok (.bipush 100, 2) := by decide +kernel
theorem dX3_commonDivisor_13 : decode cX3_commonDivisor 13 = .ok (.if_icmp .ge 31, 3) := by decide +kernel
theorem dX3_commonDivisor_16 : decode cX3_commonDivisor 16 = .ok (.lload 6, 2) := by decide +kernel
theorem dX3_commonDivisor_18 : decode cX3_commonDivisor 18 = .ok (.lconst 0, 1) := by decide +kernel
theorem dX3_commonDivisor_19 : decode cX3_commonDivisor 19 = .ok (.lcmp, 1) := by decide +kernel
theorem dX3_commonDivisor_20 : decode cX3_commonDivisor 20 = .ok (.ifCond .eq 24, 3) := by decide +kernel
theorem dX3_commonDivisor_23 : decode cX3_commonDivisor 23 = .ok (.lload 4, 2) := by decide +kernel
theorem dX3_commonDivisor_25 : decode cX3_commonDivisor 25 = .ok (.lload 6, 2) := by decide +kernel
theorem dX3_commonDivisor_27 : decode cX3_commonDivisor 27 = .ok (.lrem, 1) := by decide +kernel
theorem dX3_commonDivisor_28 : decode cX3_commonDivisor 28 = .ok (.lstore 9, 2) := by decide +kernel
theorem dX3_commonDivisor_30 : decode cX3_commonDivisor 30 = .ok (.lload 6, 2) := by decide +kernel
theorem dX3_commonDivisor_32 : decode cX3_commonDivisor 32 = .ok (.lstore 4, 2) := by decide +kernel
theorem dX3_commonDivisor_34 : decode cX3_commonDivisor 34 = .ok (.lload 9, 2) := by decide +kernel
theorem dX3_commonDivisor_36 : decode cX3_commonDivisor 36 = .ok (.lstore 6, 2) := by decide +kernel
theorem dX3_commonDivisor_38 : decode cX3_commonDivisor 38 = .ok (.iinc 8 1, 3) := by decide +kernel
theorem dX3_commonDivisor_41 : decode cX3_commonDivisor 41 = .ok (.goto (-32), 3) := by decide +kernel
theorem dX3_commonDivisor_44 : decode cX3_commonDivisor 44 = .ok (.lload 4, 2) := by decide +kernel
theorem dX3_commonDivisor_46 : decode cX3_commonDivisor 46 = .ok (.lreturn, 1) := by decide +kernel
theorem dX3_faultIn_0 : decode cX3_faultIn 0 = .ok (.iconst 0, 1) := by decide +kernel
theorem dX3_faultIn_1 : decode cX3_faultIn 1 = .ok (.istore_n 2, 1) := by decide +kernel
theorem dX3_faultIn_2 : decode cX3_faultIn 2 = .ok (.iconst 0, 1) := by decide +kernel
theorem dX3_faultIn_3 : decode cX3_faultIn 3 = .ok (.istore_n 3, 1) := by decide +kernel
theorem dX3_faultIn_4 : decode cX3_faultIn 4 = .ok (.iload_n 3, 1) := by decide +kernel
theorem dX3_faultIn_5 : decode cX3_faultIn 5 = .ok (.iload_n 1, 1) := by decide +kernel
theorem dX3_faultIn_6 : decode cX3_faultIn 6 = .ok (.if_icmp .ge 53, 3) := by decide +kernel
theorem dX3_faultIn_9 : decode cX3_faultIn 9 = .ok (.aload_n 0, 1) := by decide +kernel
theorem dX3_faultIn_10 : decode cX3_faultIn 10 = .ok (.iload_n 3, 1) := by decide +kernel
theorem dX3_faultIn_11 : decode cX3_faultIn 11 = .ok (.iaload, 1) := by decide +kernel
theorem dX3_faultIn_12 : decode cX3_faultIn 12 = .ok (.bipush 32, 2) := by decide +kernel
theorem dX3_faultIn_14 : decode cX3_faultIn 14 = .ok (.if_icmp .ne 9, 3) := by decide +kernel
theorem dX3_faultIn_17 : decode cX3_faultIn 17 = .ok (.iinc 3 1, 3) := by decide +kernel
theorem dX3_faultIn_20 : decode cX3_faultIn 20 = .ok (.goto (-16), 3) := by decide +kernel
theorem dX3_faultIn_23 : decode cX3_faultIn 23 = .ok (.iload_n 2, 1) := by decide +kernel
theorem dX3_faultIn_24 : decode cX3_faultIn 24 = .ok (.bipush 7, 2) := by decide +kernel
theorem dX3_faultIn_26 : decode cX3_faultIn 26 = .ok (.if_icmp .ne 5, 3) := by decide +kernel
theorem dX3_faultIn_29 : decode cX3_faultIn 29 = .ok (.iload_n 3, 1) := by decide +kernel
theorem dX3_faultIn_30 : decode cX3_faultIn 30 = .ok (.ireturn, 1) := by decide +kernel
theorem dX3_faultIn_31 : decode cX3_faultIn 31 = .ok (.aload_n 0, 1) := by decide +kernel
theorem dX3_faultIn_32 : decode cX3_faultIn 32 = .ok (.iload_n 1, 1) := by decide +kernel
theorem dX3_faultIn_33 : decode cX3_faultIn 33 = .ok (.iload_n 3, 1) := by decide +kernel
theorem dX3_faultIn_34 : decode cX3_faultIn 34 = .ok (.invokestatic 346, 3) := by decide +kernel
theorem dX3_faultIn_37 : decode cX3_faultIn 37 = .ok (.istore 4, 2) := by decide +kernel
theorem dX3_faultIn_39 : decode cX3_faultIn 39 = .ok (.iload 4, 2) := by decide +kernel
theorem dX3_faultIn_41 : decode cX3_faultIn 41 = .ok (.iconst 3, 1) := by decide +kernel
theorem dX3_faultIn_42 : decode cX3_faultIn 42 = .ok (.if_icmp .ge 8, 3) := by decide +kernel
theorem dX3_faultIn_45 : decode cX3_faultIn 45 = .ok (.iload_n 3, 1) := by decide +kernel
theorem dX3_faultIn_46 : decode cX3_faultIn 46 = .ok (.iload 4, 2) := by decide +kernel
theorem dX3_faultIn_48 : decode cX3_faultIn 48 = .ok (.iadd, 1) := by decide +kernel
theorem dX3_faultIn_49 : decode cX3_faultIn 49 = .ok (.ireturn, 1) := by decide +kernel
theorem dX3_faultIn_50 : decode cX3_faultIn 50 = .ok (.iinc 2 1, 3) := by decide +kernel
theorem dX3_faultIn_53 : decode cX3_faultIn 53 = .ok (.iinc 3 3, 3) := by decide +kernel
theorem dX3_faultIn_56 : decode cX3_faultIn 56 = .ok (.goto (-52), 3) := by decide +kernel
theorem dX3_faultIn_59 : decode cX3_faultIn 59 = .ok (.iload_n 2, 1) := by decide +kernel
theorem dX3_faultIn_60 : decode cX3_faultIn 60 = .ok (.iconst 2, 1) := by decide +kernel
theorem dX3_faultIn_61 : decode cX3_faultIn 61 = .ok (.if_icmp .ge 7, 3) := by decide +kernel
theorem dX3_faultIn_64 : decode cX3_faultIn 64 = .ok (.iload_n 1, 1) := by decide +kernel
theorem dX3_faultIn_65 : decode cX3_faultIn 65 = .ok (.goto 5, 3) := by decide +kernel
theorem dX3_faultIn_68 : decode cX3_faultIn 68 = .ok (.bipush (-9), 2) := by decide +kernel
theorem dX3_faultIn_70 : decode cX3_faultIn 70 = .ok (.ireturn, 1) := by decide +kernel
theorem dX3_goodSigns_0 : decode cX3_goodSigns 0 = .ok (.iload_n 2, 1) := by decide +kernel
theorem dX3_goodSigns_1 : decode cX3_goodSigns 1 = .ok (.iload_n 1, 1) := by decide +kernel
theorem dX3_goodSigns_2 : decode cX3_goodSigns 2 = .ok (.if_icmp .ge 14, 3) := by decide +kernel
theorem dX3_goodSigns_5 : decode cX3_goodSigns 5 = .ok (.aload_n 0, 1) := by decide +kernel
theorem dX3_goodSigns_6 : decode cX3_goodSigns 6 = .ok (.iload_n 2, 1) := by decide +kernel
theorem dX3_goodSigns_7 : decode cX3_goodSigns 7 = .ok (.iaload, 1) := by decide +kernel
theorem dX3_goodSigns_8 : decode cX3_goodSigns 8 = .ok (.invokestatic 350, 3) := by decide +kernel
theorem dX3_goodSigns_11 : decode cX3_goodSigns 11 = .ok (.bipush (-9), 2) := by decide +kernel
theorem dX3_goodSigns_13 : decode cX3_goodSigns 13 = .ok (.if_icmp .ne 5, 3) := by decide +kernel
theorem dX3_goodSigns_16 : decode cX3_goodSigns 16 = .ok (.iconst 0, 1) := by decide +kernel
theorem dX3_goodSigns_17 : decode cX3_goodSigns 17 = .ok (.ireturn, 1) := by decide +kernel
theorem dX3_goodSigns_18 : decode cX3_goodSigns 18 = .ok (.iload_n 2, 1) := by decide +kernel
theorem dX3_goodSigns_19 : decode cX3_goodSigns 19 = .ok (.iconst 1, 1) := by decide +kernel
theorem dX3_goodSigns_20 : decode cX3_goodSigns 20 = .ok (.iadd, 1) := by decide +kernel
theorem dX3_goodSigns_21 : decode cX3_goodSigns 21 = .ok (.iload_n 1, 1) := by decide +kernel
theorem dX3_goodSigns_22 : decode cX3_goodSigns 22 = .ok (.if_icmp .ge 14, 3) := by decide +kernel
theorem dX3_goodSigns_25 : decode cX3_goodSigns 25 = .ok (.aload_n 0, 1) := by decide +kernel
theorem dX3_goodSigns_26 : decode cX3_goodSigns 26 = .ok (.iload_n 2, 1) := by decide +kernel
theorem dX3_goodSigns_27 : decode cX3_goodSigns 27 = .ok (.iconst 1, 1) := by decide +kernel
theorem dX3_goodSigns_28 : decode cX3_goodSigns 28 = .ok (.iadd, 1) := by decide +kernel
theorem dX3_goodSigns_29 : decode cX3_goodSigns 29 = .ok (.iaload, 1) := by decide +kernel
theorem dX3_goodSigns_30 : decode cX3_goodSigns 30 = .ok (.invokestatic 353, 3) := by decide +kernel
theorem dX3_goodSigns_33 : decode cX3_goodSigns 33 = .ok (.ifCond .ne 5, 3) := by decide +kernel
theorem dX3_goodSigns_36 : decode cX3_goodSigns 36 = .ok (.iconst 1, 1) := by decide +kernel
theorem dX3_goodSigns_37 : decode cX3_goodSigns 37 = .ok (.ireturn, 1) := by decide +kernel
theorem dX3_goodSigns_38 : decode cX3_goodSigns 38 = .ok (.iload_n 2, 1) := by decide +kernel
theorem dX3_goodSigns_39 : decode cX3_goodSigns 39 = .ok (.iconst 2, 1) := by decide +kernel
theorem dX3_goodSigns_40 : decode cX3_goodSigns 40 = .ok (.iadd, 1) := by decide +kernel
theorem dX3_goodSigns_41 : decode cX3_goodSigns 41 = .ok (.iload_n 1, 1) := by decide +kernel
theorem dX3_goodSigns_42 : decode cX3_goodSigns 42 = .ok (.if_icmp .ge 14, 3) := by decide +kernel
theorem dX3_goodSigns_45 : decode cX3_goodSigns 45 = .ok (.aload_n 0, 1) := by decide +kernel
theorem dX3_goodSigns_46 : decode cX3_goodSigns 46 = .ok (.iload_n 2, 1) := by decide +kernel
