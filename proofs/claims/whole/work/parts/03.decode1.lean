theorem dX2_missing_4 : decode cX2_missing 4 = .ok (.iload_n 1, 1) := by decide +kernel
theorem dX2_missing_5 : decode cX2_missing 5 = .ok (.iaload, 1) := by decide +kernel
theorem dX2_missing_6 : decode cX2_missing 6 = .ok (.ifCond .ge 7, 3) := by decide +kernel
theorem dX2_missing_9 : decode cX2_missing 9 = .ok (.iconst 1, 1) := by decide +kernel
theorem dX2_missing_10 : decode cX2_missing 10 = .ok (.goto 4, 3) := by decide +kernel
theorem dX2_missing_13 : decode cX2_missing 13 = .ok (.iconst 0, 1) := by decide +kernel
theorem dX2_missing_14 : decode cX2_missing 14 = .ok (.ireturn, 1) := by decide +kernel
theorem dX2_reaches_0 : decode cX2_reaches 0 = .ok (.iload_n 2, 1) := by decide +kernel
theorem dX2_reaches_1 : decode cX2_reaches 1 = .ok (.ifCond .lt 29, 3) := by decide +kernel
theorem dX2_reaches_4 : decode cX2_reaches 4 = .ok (.iload_n 2, 1) := by decide +kernel
theorem dX2_reaches_5 : decode cX2_reaches 5 = .ok (.aload_n 0, 1) := by decide +kernel
theorem dX2_reaches_6 : decode cX2_reaches 6 = .ok (.getfield 14, 3) := by decide +kernel
theorem dX2_reaches_9 : decode cX2_reaches 9 = .ok (.iload_n 1, 1) := by decide +kernel
theorem dX2_reaches_10 : decode cX2_reaches 10 = .ok (.iaload, 1) := by decide +kernel
theorem dX2_reaches_11 : decode cX2_reaches 11 = .ok (.if_icmp .gt 19, 3) := by decide +kernel
theorem dX2_reaches_14 : decode cX2_reaches 14 = .ok (.iload_n 3, 1) := by decide +kernel
theorem dX2_reaches_15 : decode cX2_reaches 15 = .ok (.aload_n 0, 1) := by decide +kernel
theorem dX2_reaches_16 : decode cX2_reaches 16 = .ok (.getfield 14, 3) := by decide +kernel
theorem dX2_reaches_19 : decode cX2_reaches 19 = .ok (.iload_n 1, 1) := by decide +kernel
theorem dX2_reaches_20 : decode cX2_reaches 20 = .ok (.iaload, 1) := by decide +kernel
theorem dX2_reaches_21 : decode cX2_reaches 21 = .ok (.iload_n 2, 1) := by decide +kernel
theorem dX2_reaches_22 : decode cX2_reaches 22 = .ok (.isub, 1) := by decide +kernel
theorem dX2_reaches_23 : decode cX2_reaches 23 = .ok (.if_icmp .gt 7, 3) := by decide +kernel
theorem dX2_reaches_26 : decode cX2_reaches 26 = .ok (.iconst 1, 1) := by decide +kernel
theorem dX2_reaches_27 : decode cX2_reaches 27 = .ok (.goto 4, 3) := by decide +kernel
theorem dX2_reaches_30 : decode cX2_reaches 30 = .ok (.iconst 0, 1) := by decide +kernel
theorem dX2_reaches_31 : decode cX2_reaches 31 = .ok (.ireturn, 1) := by decide +kernel
theorem dX2_spread_0 : decode cX2_spread 0 = .ok (.aload_n 0, 1) := by decide +kernel
theorem dX2_spread_1 : decode cX2_spread 1 = .ok (.getfield 9, 3) := by decide +kernel
theorem dX2_spread_4 : decode cX2_spread 4 = .ok (.iload_n 1, 1) := by decide +kernel
theorem dX2_spread_5 : decode cX2_spread 5 = .ok (.aaload, 1) := by decide +kernel
theorem dX2_spread_6 : decode cX2_spread 6 = .ok (.iload_n 3, 1) := by decide +kernel
theorem dX2_spread_7 : decode cX2_spread 7 = .ok (.invokestatic 22, 3) := by decide +kernel
theorem dX2_spread_10 : decode cX2_spread 10 = .ok (.aload_n 0, 1) := by decide +kernel
theorem dX2_spread_11 : decode cX2_spread 11 = .ok (.getfield 14, 3) := by decide +kernel
theorem dX2_spread_14 : decode cX2_spread 14 = .ok (.iload_n 1, 1) := by decide +kernel
theorem dX2_spread_15 : decode cX2_spread 15 = .ok (.iload_n 2, 1) := by decide +kernel
theorem dX2_spread_16 : decode cX2_spread 16 = .ok (.iastore, 1) := by decide +kernel
theorem dX2_spread_17 : decode cX2_spread 17 = .ok (.return_, 1) := by decide +kernel
theorem dX2_total_0 : decode cX2_total 0 = .ok (.lconst 0, 1) := by decide +kernel
theorem dX2_total_1 : decode cX2_total 1 = .ok (.lstore_n 2, 1) := by decide +kernel
theorem dX2_total_2 : decode cX2_total 2 = .ok (.iconst 0, 1) := by decide +kernel
theorem dX2_total_3 : decode cX2_total 3 = .ok (.istore 4, 2) := by decide +kernel
theorem dX2_total_5 : decode cX2_total 5 = .ok (.iload 4, 2) := by decide +kernel
theorem dX2_total_7 : decode cX2_total 7 = .ok (.aload_n 0, 1) := by decide +kernel
theorem dX2_total_8 : decode cX2_total 8 = .ok (.getfield 14, 3) := by decide +kernel
theorem dX2_total_11 : decode cX2_total 11 = .ok (.iload_n 1, 1) := by decide +kernel
theorem dX2_total_12 : decode cX2_total 12 = .ok (.iaload, 1) := by decide +kernel
theorem dX2_total_13 : decode cX2_total 13 = .ok (.if_icmp .ge 22, 3) := by decide +kernel
theorem dX2_total_16 : decode cX2_total 16 = .ok (.lload_n 2, 1) := by decide +kernel
theorem dX2_total_17 : decode cX2_total 17 = .ok (.aload_n 0, 1) := by decide +kernel
theorem dX2_total_18 : decode cX2_total 18 = .ok (.getfield 9, 3) := by decide +kernel
theorem dX2_total_21 : decode cX2_total 21 = .ok (.iload_n 1, 1) := by decide +kernel
theorem dX2_total_22 : decode cX2_total 22 = .ok (.aaload, 1) := by decide +kernel
theorem dX2_total_23 : decode cX2_total 23 = .ok (.iload 4, 2) := by decide +kernel
theorem dX2_total_25 : decode cX2_total 25 = .ok (.iaload, 1) := by decide +kernel
theorem dX2_total_26 : decode cX2_total 26 = .ok (.i2l, 1) := by decide +kernel
theorem dX2_total_27 : decode cX2_total 27 = .ok (.ladd, 1) := by decide +kernel
theorem dX2_total_28 : decode cX2_total 28 = .ok (.lstore_n 2, 1) := by decide +kernel
theorem dX2_total_29 : decode cX2_total 29 = .ok (.iinc 4 1, 3) := by decide +kernel
theorem dX2_total_32 : decode cX2_total 32 = .ok (.goto (-27), 3) := by decide +kernel
theorem dX2_total_35 : decode cX2_total 35 = .ok (.lload_n 2, 1) := by decide +kernel
theorem dX2_total_36 : decode cX2_total 36 = .ok (.lreturn, 1) := by decide +kernel
theorem dX2_present_0 : decode cX2_present 0 = .ok (.iconst 0, 1) := by decide +kernel
theorem dX2_present_1 : decode cX2_present 1 = .ok (.istore_n 1, 1) := by decide +kernel
theorem dX2_present_2 : decode cX2_present 2 = .ok (.iconst 0, 1) := by decide +kernel
theorem dX2_present_3 : decode cX2_present 3 = .ok (.istore_n 2, 1) := by decide +kernel
theorem dX2_present_4 : decode cX2_present 4 = .ok (.iload_n 2, 1) := by decide +kernel
theorem dX2_present_5 : decode cX2_present 5 = .ok (.aload_n 0, 1) := by decide +kernel
theorem dX2_present_6 : decode cX2_present 6 = .ok (.getfield 14, 3) := by decide +kernel
theorem dX2_present_9 : decode cX2_present 9 = .ok (.arraylength, 1) := by decide +kernel
theorem dX2_present_10 : decode cX2_present 10 = .ok (.if_icmp .ge 21, 3) := by decide +kernel
theorem dX2_present_13 : decode cX2_present 13 = .ok (.aload_n 0, 1) := by decide +kernel
theorem dX2_present_14 : decode cX2_present 14 = .ok (.getfield 14, 3) := by decide +kernel
theorem dX2_present_17 : decode cX2_present 17 = .ok (.iload_n 2, 1) := by decide +kernel
theorem dX2_present_18 : decode cX2_present 18 = .ok (.iaload, 1) := by decide +kernel
theorem dX2_present_19 : decode cX2_present 19 = .ok (.ifCond .lt 6, 3) := by decide +kernel
theorem dX2_present_22 : decode cX2_present 22 = .ok (.iinc 1 1, 3) := by decide +kernel
theorem dX2_present_25 : decode cX2_present 25 = .ok (.iinc 2 1, 3) := by decide +kernel
theorem dX2_present_28 : decode cX2_present 28 = .ok (.goto (-24), 3) := by decide +kernel
theorem dX2_present_31 : decode cX2_present 31 = .ok (.iload_n 1, 1) := by decide +kernel
theorem dX2_present_32 : decode cX2_present 32 = .ok (.ireturn, 1) := by decide +kernel
theorem dX2_digestFrom_0 : decode cX2_digestFrom 0 = .ok (.lload_n 1, 1) := by decide +kernel
theorem dX2_digestFrom_1 : decode cX2_digestFrom 1 = .ok (.lstore_n 3, 1) := by decide +kernel
theorem dX2_digestFrom_2 : decode cX2_digestFrom 2 = .ok (.iconst 0, 1) := by decide +kernel
theorem dX2_digestFrom_3 : decode cX2_digestFrom 3 = .ok (.istore 5, 2) := by decide +kernel
theorem dX2_digestFrom_5 : decode cX2_digestFrom 5 = .ok (.iload 5, 2) := by decide +kernel
theorem dX2_digestFrom_7 : decode cX2_digestFrom 7 = .ok (.aload_n 0, 1) := by decide +kernel
theorem dX2_digestFrom_8 : decode cX2_digestFrom 8 = .ok (.getfield 14, 3) := by decide +kernel
theorem dX2_digestFrom_11 : decode cX2_digestFrom 11 = .ok (.arraylength, 1) := by decide +kernel
theorem dX2_digestFrom_12 : decode cX2_digestFrom 12 = .ok (.if_icmp .ge 63, 3) := by decide +kernel
theorem dX2_digestFrom_15 : decode cX2_digestFrom 15 = .ok (.ldc2_w 28, 3) := by decide +kernel
theorem dX2_digestFrom_18 : decode cX2_digestFrom 18 = .ok (.lload_n 3, 1) := by decide +kernel
theorem dX2_digestFrom_19 : decode cX2_digestFrom 19 = .ok (.lmul, 1) := by decide +kernel
theorem dX2_digestFrom_20 : decode cX2_digestFrom 20 = .ok (.aload_n 0, 1) := by decide +kernel
theorem dX2_digestFrom_21 : decode cX2_digestFrom 21 = .ok (.getfield 14, 3) := by decide +kernel
theorem dX2_digestFrom_24 : decode cX2_digestFrom 24 = .ok (.iload 5, 2) := by decide +kernel
theorem dX2_digestFrom_26 : decode cX2_digestFrom 26 = .ok (.iaload, 1) := by decide +kernel
theorem dX2_digestFrom_27 : decode cX2_digestFrom 27 = .ok (.i2l, 1) := by decide +kernel
theorem dX2_digestFrom_28 : decode cX2_digestFrom 28 = .ok (.ladd, 1) := by decide +kernel
theorem dX2_digestFrom_29 : decode cX2_digestFrom 29 = .ok (.lstore_n 3, 1) := by decide +kernel
theorem dX2_digestFrom_30 : decode cX2_digestFrom 30 = .ok (.iconst 0, 1) := by decide +kernel
theorem dX2_digestFrom_31 : decode cX2_digestFrom 31 = .ok (.istore 6, 2) := by decide +kernel
theorem dX2_digestFrom_33 : decode cX2_digestFrom 33 = .ok (.iload 6, 2) := by decide +kernel
theorem dX2_digestFrom_35 : decode cX2_digestFrom 35 = .ok (.aload_n 0, 1) := by decide +kernel
theorem dX2_digestFrom_36 : decode cX2_digestFrom 36 = .ok (.getfield 14, 3) := by decide +kernel
theorem dX2_digestFrom_39 : decode cX2_digestFrom 39 = .ok (.iload 5, 2) := by decide +kernel
theorem dX2_digestFrom_41 : decode cX2_digestFrom 41 = .ok (.iaload, 1) := by decide +kernel
theorem dX2_digestFrom_42 : decode cX2_digestFrom 42 = .ok (.if_icmp .ge 27, 3) := by decide +kernel
theorem dX2_digestFrom_45 : decode cX2_digestFrom 45 = .ok (.ldc2_w 28, 3) := by decide +kernel
theorem dX2_digestFrom_48 : decode cX2_digestFrom 48 = .ok (.lload_n 3, 1) := by decide +kernel
theorem dX2_digestFrom_49 : decode cX2_digestFrom 49 = .ok (.lmul, 1) := by decide +kernel
theorem dX2_digestFrom_50 : decode cX2_digestFrom 50 = .ok (.aload_n 0, 1) := by decide +kernel
theorem dX2_digestFrom_51 : decode cX2_digestFrom 51 = .ok (.getfield 9, 3) := by decide +kernel
theorem dX2_digestFrom_54 : decode cX2_digestFrom 54 = .ok (.iload 5, 2) := by decide +kernel
theorem dX2_digestFrom_56 : decode cX2_digestFrom 56 = .ok (.aaload, 1) := by decide +kernel
theorem dX2_digestFrom_57 : decode cX2_digestFrom 57 = .ok (.iload 6, 2) := by decide +kernel
theorem dX2_digestFrom_59 : decode cX2_digestFrom 59 = .ok (.iaload, 1) := by decide +kernel
theorem dX2_digestFrom_60 : decode cX2_digestFrom 60 = .ok (.i2l, 1) := by decide +kernel
theorem dX2_digestFrom_61 : decode cX2_digestFrom 61 = .ok (.ladd, 1) := by decide +kernel
theorem dX2_digestFrom_62 : decode cX2_digestFrom 62 = .ok (.lstore_n 3, 1) := by decide +kernel
theorem dX2_digestFrom_63 : decode cX2_digestFrom 63 = .ok (.iinc 6 1, 3) := by decide +kernel
theorem dX2_digestFrom_66 : decode cX2_digestFrom 66 = .ok (.goto (-33), 3) := by decide +kernel
theorem dX2_digestFrom_69 : decode cX2_digestFrom 69 = .ok (.iinc 5 1, 3) := by decide +kernel
theorem dX2_digestFrom_72 : decode cX2_digestFrom 72 = .ok (.goto (-67), 3) := by decide +kernel
theorem dX2_digestFrom_75 : decode cX2_digestFrom 75 = .ok (.lload_n 3, 1) := by decide +kernel
theorem dX2_digestFrom_76 : decode cX2_digestFrom 76 = .ok (.lreturn, 1) := by decide +kernel
theorem dX3_init_0 : decode cX3_init 0 = .ok (.aload_n 0, 1) := by decide +kernel
theorem dX3_init_1 : decode cX3_init 1 = .ok (.invokespecial 3, 3) := by decide +kernel
theorem dX3_init_4 : decode cX3_init 4 = .ok (.aload_n 0, 1) := by decide +kernel
theorem dX3_init_5 : decode cX3_init 5 = .ok (.new 9, 3) := by decide +kernel
theorem dX3_init_8 : decode cX3_init 8 = .ok (.dup, 1) := by decide +kernel
theorem dX3_init_9 : decode cX3_init 9 = .ok (.bipush 6, 2) := by decide +kernel
theorem dX3_init_11 : decode cX3_init 11 = .ok (.bipush 40, 2) := by decide +kernel
theorem dX3_init_13 : decode cX3_init 13 = .ok (.invokespecial 11, 3) := by decide +kernel
theorem dX3_init_16 : decode cX3_init 16 = .ok (.putfield 14, 3) := by decide +kernel
theorem dX3_init_19 : decode cX3_init 19 = .ok (.aload_n 0, 1) := by decide +kernel
theorem dX3_init_20 : decode cX3_init 20 = .ok (.new 9, 3) := by decide +kernel
theorem dX3_init_23 : decode cX3_init 23 = .ok (.dup, 1) := by decide +kernel
theorem dX3_init_24 : decode cX3_init 24 = .ok (.iconst 4, 1) := by decide +kernel
theorem dX3_init_25 : decode cX3_init 25 = .ok (.bipush 60, 2) := by decide +kernel
theorem dX3_init_27 : decode cX3_init 27 = .ok (.invokespecial 11, 3) := by decide +kernel
theorem dX3_init_30 : decode cX3_init 30 = .ok (.putfield 18, 3) := by decide +kernel
theorem dX3_init_33 : decode cX3_init 33 = .ok (.aload_n 0, 1) := by decide +kernel
theorem dX3_init_34 : decode cX3_init 34 = .ok (.new 21, 3) := by decide +kernel
theorem dX3_init_37 : decode cX3_init 37 = .ok (.dup, 1) := by decide +kernel
theorem dX3_init_38 : decode cX3_init 38 = .ok (.invokespecial 23, 3) := by decide +kernel
theorem dX3_init_41 : decode cX3_init 41 = .ok (.putfield 24, 3) := by decide +kernel
theorem dX3_init_44 : decode cX3_init 44 = .ok (.aload_n 0, 1) := by decide +kernel
theorem dX3_init_45 : decode cX3_init 45 = .ok (.new 28, 3) := by decide +kernel
theorem dX3_init_48 : decode cX3_init 48 = .ok (.dup, 1) := by decide +kernel
theorem dX3_init_49 : decode cX3_init 49 = .ok (.invokespecial 30, 3) := by decide +kernel
theorem dX3_init_52 : decode cX3_init 52 = .ok (.putfield 31, 3) := by decide +kernel
theorem dX3_init_55 : decode cX3_init 55 = .ok (.aload_n 0, 1) := by decide +kernel
theorem dX3_init_56 : decode cX3_init 56 = .ok (.iconst 3, 1) := by decide +kernel
theorem dX3_init_57 : decode cX3_init 57 = .ok (.bipush 40, 2) := by decide +kernel
theorem dX3_init_59 : decode cX3_init 59 = .ok (.multianewarray 35 2, 4) := by decide +kernel
theorem dX3_init_63 : decode cX3_init 63 = .ok (.putfield 37, 3) := by decide +kernel
theorem dX3_init_66 : decode cX3_init 66 = .ok (.aload_n 0, 1) := by decide +kernel
theorem dX3_init_67 : decode cX3_init 67 = .ok (.iconst 3, 1) := by decide +kernel
theorem dX3_init_68 : decode cX3_init 68 = .ok (.newarray .int, 2) := by decide +kernel
theorem dX3_init_70 : decode cX3_init 70 = .ok (.putfield 40, 3) := by decide +kernel
theorem dX3_init_73 : decode cX3_init 73 = .ok (.aload_n 0, 1) := by decide +kernel
theorem dX3_init_74 : decode cX3_init 74 = .ok (.bipush 7, 2) := by decide +kernel
theorem dX3_init_76 : decode cX3_init 76 = .ok (.newarray .int, 2) := by decide +kernel
theorem dX3_init_78 : decode cX3_init 78 = .ok (.putfield 44, 3) := by decide +kernel
theorem dX3_init_81 : decode cX3_init 81 = .ok (.aload_n 0, 1) := by decide +kernel
theorem dX3_init_82 : decode cX3_init 82 = .ok (.bipush 7, 2) := by decide +kernel
theorem dX3_init_84 : decode cX3_init 84 = .ok (.newarray .int, 2) := by decide +kernel
theorem dX3_init_86 : decode cX3_init 86 = .ok (.putfield 47, 3) := by decide +kernel
theorem dX3_init_89 : decode cX3_init 89 = .ok (.aload_n 0, 1) := by decide +kernel
theorem dX3_init_90 : decode cX3_init 90 = .ok (.bipush 6, 2) := by decide +kernel
theorem dX3_init_92 : decode cX3_init 92 = .ok (.newarray .int, 2) := by decide +kernel
theorem dX3_init_94 : decode cX3_init 94 = .ok (.putfield 50, 3) := by decide +kernel
theorem dX3_init_97 : decode cX3_init 97 = .ok (.aload_n 0, 1) := by decide +kernel
theorem dX3_init_98 : decode cX3_init 98 = .ok (.iconst 0, 1) := by decide +kernel
theorem dX3_init_99 : decode cX3_init 99 = .ok (.putfield 53, 3) := by decide +kernel
theorem dX3_init_102 : decode cX3_init 102 = .ok (.aload_n 0, 1) := by decide +kernel
theorem dX3_init_103 : decode cX3_init 103 = .ok (.iconst 0, 1) := by decide +kernel
theorem dX3_init_104 : decode cX3_init 104 = .ok (.putfield 57, 3) := by decide +kernel
theorem dX3_init_107 : decode cX3_init 107 = .ok (.aload_n 0, 1) := by decide +kernel
theorem dX3_init_108 : decode cX3_init 108 = .ok (.lconst 0, 1) := by decide +kernel
theorem dX3_init_109 : decode cX3_init 109 = .ok (.putfield 60, 3) := by decide +kernel
theorem dX3_init_112 : decode cX3_init 112 = .ok (.aload_n 0, 1) := by decide +kernel
theorem dX3_init_113 : decode cX3_init 113 = .ok (.lconst 1, 1) := by decide +kernel
theorem dX3_init_114 : decode cX3_init 114 = .ok (.putfield 64, 3) := by decide +kernel
theorem dX3_init_117 : decode cX3_init 117 = .ok (.aload_n 0, 1) := by decide +kernel
theorem dX3_init_118 : decode cX3_init 118 = .ok (.getfield 40, 3) := by decide +kernel
theorem dX3_init_121 : decode cX3_init 121 = .ok (.iconst (-1), 1) := by decide +kernel
theorem dX3_init_122 : decode cX3_init 122 = .ok (.invokestatic 67, 3) := by decide +kernel
theorem dX3_init_125 : decode cX3_init 125 = .ok (.return_, 1) := by decide +kernel
theorem dX3_row_0 : decode cX3_row 0 = .ok (.aload_n 0, 1) := by decide +kernel
theorem dX3_row_1 : decode cX3_row 1 = .ok (.aload_n 0, 1) := by decide +kernel
theorem dX3_row_2 : decode cX3_row 2 = .ok (.getfield 14, 3) := by decide +kernel
theorem dX3_row_5 : decode cX3_row 5 = .ok (.iload_n 1, 1) := by decide +kernel
theorem dX3_row_6 : decode cX3_row 6 = .ok (.iload_n 2, 1) := by decide +kernel
theorem dX3_row_7 : decode cX3_row 7 = .ok (.iconst 0, 1) := by decide +kernel
theorem dX3_row_8 : decode cX3_row 8 = .ok (.invokevirtual 73, 3) := by decide +kernel
theorem dX3_row_11 : decode cX3_row 11 = .ok (.ireturn, 1) := by decide +kernel
theorem dX3_lay_0 : decode cX3_lay 0 = .ok (.aload_n 0, 1) := by decide +kernel
theorem dX3_lay_1 : decode cX3_lay 1 = .ok (.aload_n 0, 1) := by decide +kernel
theorem dX3_lay_2 : decode cX3_lay 2 = .ok (.getfield 14, 3) := by decide +kernel
theorem dX3_lay_5 : decode cX3_lay 5 = .ok (.iload_n 1, 1) := by decide +kernel
theorem dX3_lay_6 : decode cX3_lay 6 = .ok (.iload_n 2, 1) := by decide +kernel
theorem dX3_lay_7 : decode cX3_lay 7 = .ok (.invokevirtual 77, 3) := by decide +kernel
theorem dX3_lay_10 : decode cX3_lay 10 = .ok (.istore 4, 2) := by decide +kernel
theorem dX3_lay_12 : decode cX3_lay 12 = .ok (.iload 4, 2) := by decide +kernel
theorem dX3_lay_14 : decode cX3_lay 14 = .ok (.ifCond .eq 6, 3) := by decide +kernel
theorem dX3_lay_17 : decode cX3_lay 17 = .ok (.iload 4, 2) := by decide +kernel
theorem dX3_lay_19 : decode cX3_lay 19 = .ok (.ireturn, 1) := by decide +kernel
theorem dX3_lay_20 : decode cX3_lay 20 = .ok (.aload_n 0, 1) := by decide +kernel
theorem dX3_lay_21 : decode cX3_lay 21 = .ok (.getfield 14, 3) := by decide +kernel
theorem dX3_lay_24 : decode cX3_lay 24 = .ok (.getfield 81, 3) := by decide +kernel
theorem dX3_lay_27 : decode cX3_lay 27 = .ok (.iload_n 1, 1) := by decide +kernel
theorem dX3_lay_28 : decode cX3_lay 28 = .ok (.aaload, 1) := by decide +kernel
theorem dX3_lay_29 : decode cX3_lay 29 = .ok (.iload_n 2, 1) := by decide +kernel
theorem dX3_lay_30 : decode cX3_lay 30 = .ok (.iaload, 1) := by decide +kernel
theorem dX3_lay_31 : decode cX3_lay 31 = .ok (.istore 5, 2) := by decide +kernel
theorem dX3_lay_33 : decode cX3_lay 33 = .ok (.aload_n 0, 1) := by decide +kernel
theorem dX3_lay_34 : decode cX3_lay 34 = .ok (.getfield 14, 3) := by decide +kernel
theorem dX3_lay_37 : decode cX3_lay 37 = .ok (.getfield 81, 3) := by decide +kernel
theorem dX3_lay_40 : decode cX3_lay 40 = .ok (.iload_n 1, 1) := by decide +kernel
theorem dX3_lay_41 : decode cX3_lay 41 = .ok (.aaload, 1) := by decide +kernel
theorem dX3_lay_42 : decode cX3_lay 42 = .ok (.iload_n 2, 1) := by decide +kernel
theorem dX3_lay_43 : decode cX3_lay 43 = .ok (.iload_n 3, 1) := by decide +kernel
theorem dX3_lay_44 : decode cX3_lay 44 = .ok (.iastore, 1) := by decide +kernel
theorem dX3_lay_45 : decode cX3_lay 45 = .ok (.aload_n 0, 1) := by decide +kernel
theorem dX3_lay_46 : decode cX3_lay 46 = .ok (.iload 5, 2) := by decide +kernel
theorem dX3_lay_48 : decode cX3_lay 48 = .ok (.invokevirtual 84, 3) := by decide +kernel
theorem dX3_lay_51 : decode cX3_lay 51 = .ok (.ireturn, 1) := by decide +kernel
theorem dX3_at_0 : decode cX3_at 0 = .ok (.aload_n 0, 1) := by decide +kernel
theorem dX3_at_1 : decode cX3_at 1 = .ok (.aload_n 0, 1) := by decide +kernel
theorem dX3_at_2 : decode cX3_at 2 = .ok (.getfield 14, 3) := by decide +kernel
theorem dX3_at_5 : decode cX3_at 5 = .ok (.iload_n 1, 1) := by decide +kernel
theorem dX3_at_6 : decode cX3_at 6 = .ok (.iload_n 2, 1) := by decide +kernel
theorem dX3_at_7 : decode cX3_at 7 = .ok (.invokevirtual 77, 3) := by decide +kernel
theorem dX3_at_10 : decode cX3_at 10 = .ok (.istore_n 3, 1) := by decide +kernel
theorem dX3_at_11 : decode cX3_at 11 = .ok (.iload_n 3, 1) := by decide +kernel
theorem dX3_at_12 : decode cX3_at 12 = .ok (.ifCond .eq 7, 3) := by decide +kernel
theorem dX3_at_15 : decode cX3_at 15 = .ok (.iload_n 3, 1) := by decide +kernel
theorem dX3_at_16 : decode cX3_at 16 = .ok (.goto 18, 3) := by decide +kernel
theorem dX3_at_19 : decode cX3_at 19 = .ok (.aload_n 0, 1) := by decide +kernel
theorem dX3_at_20 : decode cX3_at 20 = .ok (.aload_n 0, 1) := by decide +kernel
theorem dX3_at_21 : decode cX3_at 21 = .ok (.getfield 14, 3) := by decide +kernel
theorem dX3_at_24 : decode cX3_at 24 = .ok (.getfield 81, 3) := by decide +kernel
theorem dX3_at_27 : decode cX3_at 27 = .ok (.iload_n 1, 1) := by decide +kernel
theorem dX3_at_28 : decode cX3_at 28 = .ok (.aaload, 1) := by decide +kernel
theorem dX3_at_29 : decode cX3_at 29 = .ok (.iload_n 2, 1) := by decide +kernel
theorem dX3_at_30 : decode cX3_at 30 = .ok (.iaload, 1) := by decide +kernel
theorem dX3_at_31 : decode cX3_at 31 = .ok (.invokevirtual 84, 3) := by decide +kernel
theorem dX3_at_34 : decode cX3_at 34 = .ok (.ireturn, 1) := by decide +kernel
theorem dX3_tear_0 : decode cX3_tear 0 = .ok (.aload_n 0, 1) := by decide +kernel
theorem dX3_tear_1 : decode cX3_tear 1 = .ok (.aload_n 0, 1) := by decide +kernel
theorem dX3_tear_2 : decode cX3_tear 2 = .ok (.getfield 14, 3) := by decide +kernel
theorem dX3_tear_5 : decode cX3_tear 5 = .ok (.iload_n 1, 1) := by decide +kernel
theorem dX3_tear_6 : decode cX3_tear 6 = .ok (.invokevirtual 88, 3) := by decide +kernel
theorem dX3_tear_9 : decode cX3_tear 9 = .ok (.istore_n 2, 1) := by decide +kernel
theorem dX3_tear_10 : decode cX3_tear 10 = .ok (.iload_n 2, 1) := by decide +kernel
theorem dX3_tear_11 : decode cX3_tear 11 = .ok (.ifCond .eq 5, 3) := by decide +kernel
theorem dX3_tear_14 : decode cX3_tear 14 = .ok (.iload_n 2, 1) := by decide +kernel
theorem dX3_tear_15 : decode cX3_tear 15 = .ok (.ireturn, 1) := by decide +kernel
theorem dX3_tear_16 : decode cX3_tear 16 = .ok (.aload_n 0, 1) := by decide +kernel
theorem dX3_tear_17 : decode cX3_tear 17 = .ok (.getfield 14, 3) := by decide +kernel
theorem dX3_tear_20 : decode cX3_tear 20 = .ok (.getfield 92, 3) := by decide +kernel
theorem dX3_tear_23 : decode cX3_tear 23 = .ok (.iload_n 1, 1) := by decide +kernel
theorem dX3_tear_24 : decode cX3_tear 24 = .ok (.iconst (-1), 1) := by decide +kernel
theorem dX3_tear_25 : decode cX3_tear 25 = .ok (.iastore, 1) := by decide +kernel
theorem dX3_tear_26 : decode cX3_tear 26 = .ok (.iconst 1, 1) := by decide +kernel
theorem dX3_tear_27 : decode cX3_tear 27 = .ok (.ireturn, 1) := by decide +kernel
theorem dX3_copy_0 : decode cX3_copy 0 = .ok (.aload_n 0, 1) := by decide +kernel
theorem dX3_copy_1 : decode cX3_copy 1 = .ok (.getfield 14, 3) := by decide +kernel
theorem dX3_copy_4 : decode cX3_copy 4 = .ok (.iload_n 1, 1) := by decide +kernel
theorem dX3_copy_5 : decode cX3_copy 5 = .ok (.invokevirtual 95, 3) := by decide +kernel
theorem dX3_copy_8 : decode cX3_copy 8 = .ok (.ifCond .eq 14, 3) := by decide +kernel
theorem dX3_copy_11 : decode cX3_copy 11 = .ok (.aload_n 0, 1) := by decide +kernel
theorem dX3_copy_12 : decode cX3_copy 12 = .ok (.getfield 14, 3) := by decide +kernel
theorem dX3_copy_15 : decode cX3_copy 15 = .ok (.iload_n 3, 1) := by decide +kernel
theorem dX3_copy_16 : decode cX3_copy 16 = .ok (.invokevirtual 95, 3) := by decide +kernel
theorem dX3_copy_19 : decode cX3_copy 19 = .ok (.ifCond .ne 5, 3) := by decide +kernel
theorem dX3_copy_22 : decode cX3_copy 22 = .ok (.iconst (-1), 1) := by decide +kernel
theorem dX3_copy_23 : decode cX3_copy 23 = .ok (.ireturn, 1) := by decide +kernel
theorem dX3_copy_24 : decode cX3_copy 24 = .ok (.iload 5, 2) := by decide +kernel
theorem dX3_copy_26 : decode cX3_copy 26 = .ok (.ifCond .ge 9, 3) := by decide +kernel
theorem dX3_copy_29 : decode cX3_copy 29 = .ok (.aload_n 0, 1) := by decide +kernel
theorem dX3_copy_30 : decode cX3_copy 30 = .ok (.iconst 5, 1) := by decide +kernel
theorem dX3_copy_31 : decode cX3_copy 31 = .ok (.invokevirtual 99, 3) := by decide +kernel
theorem dX3_copy_34 : decode cX3_copy 34 = .ok (.ireturn, 1) := by decide +kernel
theorem dX3_copy_35 : decode cX3_copy 35 = .ok (.aload_n 0, 1) := by decide +kernel
theorem dX3_copy_36 : decode cX3_copy 36 = .ok (.getfield 14, 3) := by decide +kernel
theorem dX3_copy_39 : decode cX3_copy 39 = .ok (.iload_n 1, 1) := by decide +kernel
theorem dX3_copy_40 : decode cX3_copy 40 = .ok (.invokevirtual 102, 3) := by decide +kernel
theorem dX3_copy_43 : decode cX3_copy 43 = .ok (.ifCond .ne 14, 3) := by decide +kernel
theorem dX3_copy_46 : decode cX3_copy 46 = .ok (.aload_n 0, 1) := by decide +kernel
theorem dX3_copy_47 : decode cX3_copy 47 = .ok (.getfield 14, 3) := by decide +kernel
theorem dX3_copy_50 : decode cX3_copy 50 = .ok (.iload_n 3, 1) := by decide +kernel
theorem dX3_copy_51 : decode cX3_copy 51 = .ok (.invokevirtual 102, 3) := by decide +kernel
theorem dX3_copy_54 : decode cX3_copy 54 = .ok (.ifCond .eq 9, 3) := by decide +kernel
theorem dX3_copy_57 : decode cX3_copy 57 = .ok (.aload_n 0, 1) := by decide +kernel
theorem dX3_copy_58 : decode cX3_copy 58 = .ok (.iconst 1, 1) := by decide +kernel
theorem dX3_copy_59 : decode cX3_copy 59 = .ok (.invokevirtual 99, 3) := by decide +kernel
theorem dX3_copy_62 : decode cX3_copy 62 = .ok (.ireturn, 1) := by decide +kernel
theorem dX3_copy_63 : decode cX3_copy 63 = .ok (.aload_n 0, 1) := by decide +kernel
theorem dX3_copy_64 : decode cX3_copy 64 = .ok (.getfield 14, 3) := by decide +kernel
theorem dX3_copy_67 : decode cX3_copy 67 = .ok (.iload_n 1, 1) := by decide +kernel
theorem dX3_copy_68 : decode cX3_copy 68 = .ok (.iload_n 2, 1) := by decide +kernel
theorem dX3_copy_69 : decode cX3_copy 69 = .ok (.iload 5, 2) := by decide +kernel
theorem dX3_copy_71 : decode cX3_copy 71 = .ok (.invokevirtual 105, 3) := by decide +kernel
theorem dX3_copy_74 : decode cX3_copy 74 = .ok (.ifCond .eq 18, 3) := by decide +kernel
theorem dX3_copy_77 : decode cX3_copy 77 = .ok (.aload_n 0, 1) := by decide +kernel
theorem dX3_copy_78 : decode cX3_copy 78 = .ok (.getfield 14, 3) := by decide +kernel
theorem dX3_copy_81 : decode cX3_copy 81 = .ok (.iload_n 3, 1) := by decide +kernel
theorem dX3_copy_82 : decode cX3_copy 82 = .ok (.iload 4, 2) := by decide +kernel
theorem dX3_copy_84 : decode cX3_copy 84 = .ok (.iload 5, 2) := by decide +kernel
theorem dX3_copy_86 : decode cX3_copy 86 = .ok (.invokevirtual 105, 3) := by decide +kernel
theorem dX3_copy_89 : decode cX3_copy 89 = .ok (.ifCond .ne 9, 3) := by decide +kernel
theorem dX3_copy_92 : decode cX3_copy 92 = .ok (.aload_n 0, 1) := by decide +kernel
theorem dX3_copy_93 : decode cX3_copy 93 = .ok (.iconst 2, 1) := by decide +kernel
theorem dX3_copy_94 : decode cX3_copy 94 = .ok (.invokevirtual 99, 3) := by decide +kernel
theorem dX3_copy_97 : decode cX3_copy 97 = .ok (.ireturn, 1) := by decide +kernel
theorem dX3_copy_98 : decode cX3_copy 98 = .ok (.aload_n 0, 1) := by decide +kernel
theorem dX3_copy_99 : decode cX3_copy 99 = .ok (.getfield 14, 3) := by decide +kernel
theorem dX3_copy_102 : decode cX3_copy 102 = .ok (.getfield 81, 3) := by decide +kernel
theorem dX3_copy_105 : decode cX3_copy 105 = .ok (.iload_n 1, 1) := by decide +kernel
theorem dX3_copy_106 : decode cX3_copy 106 = .ok (.aaload, 1) := by decide +kernel
theorem dX3_copy_107 : decode cX3_copy 107 = .ok (.iload_n 2, 1) := by decide +kernel
theorem dX3_copy_108 : decode cX3_copy 108 = .ok (.aload_n 0, 1) := by decide +kernel
theorem dX3_copy_109 : decode cX3_copy 109 = .ok (.getfield 14, 3) := by decide +kernel
theorem dX3_copy_112 : decode cX3_copy 112 = .ok (.getfield 81, 3) := by decide +kernel
theorem dX3_copy_115 : decode cX3_copy 115 = .ok (.iload_n 3, 1) := by decide +kernel
theorem dX3_copy_116 : decode cX3_copy 116 = .ok (.aaload, 1) := by decide +kernel
theorem dX3_copy_117 : decode cX3_copy 117 = .ok (.iload 4, 2) := by decide +kernel
theorem dX3_copy_119 : decode cX3_copy 119 = .ok (.iload 5, 2) := by decide +kernel
theorem dX3_copy_121 : decode cX3_copy 121 = .ok (.invokestatic 109, 3) := by decide +kernel
theorem dX3_copy_124 : decode cX3_copy 124 = .ok (.iconst 1, 1) := by decide +kernel
theorem dX3_copy_125 : decode cX3_copy 125 = .ok (.ireturn, 1) := by decide +kernel
theorem dX3_mean_0 : decode cX3_mean 0 = .ok (.aload_n 0, 1) := by decide +kernel
theorem dX3_mean_1 : decode cX3_mean 1 = .ok (.aload_n 0, 1) := by decide +kernel
theorem dX3_mean_2 : decode cX3_mean 2 = .ok (.getfield 14, 3) := by decide +kernel
theorem dX3_mean_5 : decode cX3_mean 5 = .ok (.iload_n 1, 1) := by decide +kernel
theorem dX3_mean_6 : decode cX3_mean 6 = .ok (.invokevirtual 88, 3) := by decide +kernel
theorem dX3_mean_9 : decode cX3_mean 9 = .ok (.istore_n 2, 1) := by decide +kernel
theorem dX3_mean_10 : decode cX3_mean 10 = .ok (.iload_n 2, 1) := by decide +kernel
theorem dX3_mean_11 : decode cX3_mean 11 = .ok (.ifCond .eq 5, 3) := by decide +kernel
theorem dX3_mean_14 : decode cX3_mean 14 = .ok (.iload_n 2, 1) := by decide +kernel
theorem dX3_mean_15 : decode cX3_mean 15 = .ok (.ireturn, 1) := by decide +kernel
theorem dX3_mean_16 : decode cX3_mean 16 = .ok (.aload_n 0, 1) := by decide +kernel
theorem dX3_mean_17 : decode cX3_mean 17 = .ok (.getfield 14, 3) := by decide +kernel
theorem dX3_mean_20 : decode cX3_mean 20 = .ok (.getfield 92, 3) := by decide +kernel
theorem dX3_mean_23 : decode cX3_mean 23 = .ok (.iload_n 1, 1) := by decide +kernel
theorem dX3_mean_24 : decode cX3_mean 24 = .ok (.iaload, 1) := by decide +kernel
theorem dX3_mean_25 : decode cX3_mean 25 = .ok (.istore_n 3, 1) := by decide +kernel
theorem dX3_mean_26 : decode cX3_mean 26 = .ok (.iload_n 3, 1) := by decide +kernel
theorem dX3_mean_27 : decode cX3_mean 27 = .ok (.ifCond .gt 9, 3) := by decide +kernel
theorem dX3_mean_30 : decode cX3_mean 30 = .ok (.aload_n 0, 1) := by decide +kernel
theorem dX3_mean_31 : decode cX3_mean 31 = .ok (.iconst 4, 1) := by decide +kernel
theorem dX3_mean_32 : decode cX3_mean 32 = .ok (.invokevirtual 99, 3) := by decide +kernel
theorem dX3_mean_35 : decode cX3_mean 35 = .ok (.ireturn, 1) := by decide +kernel
theorem dX3_mean_36 : decode cX3_mean 36 = .ok (.aload_n 0, 1) := by decide +kernel
theorem dX3_mean_37 : decode cX3_mean 37 = .ok (.aload_n 0, 1) := by decide +kernel
theorem dX3_mean_38 : decode cX3_mean 38 = .ok (.getfield 14, 3) := by decide +kernel
theorem dX3_mean_41 : decode cX3_mean 41 = .ok (.iload_n 1, 1) := by decide +kernel
theorem dX3_mean_42 : decode cX3_mean 42 = .ok (.invokevirtual 115, 3) := by decide +kernel
theorem dX3_mean_45 : decode cX3_mean 45 = .ok (.iload_n 3, 1) := by decide +kernel
theorem dX3_mean_46 : decode cX3_mean 46 = .ok (.i2l, 1) := by decide +kernel
theorem dX3_mean_47 : decode cX3_mean 47 = .ok (.ldiv, 1) := by decide +kernel
theorem dX3_mean_48 : decode cX3_mean 48 = .ok (.l2i, 1) := by decide +kernel
theorem dX3_mean_49 : decode cX3_mean 49 = .ok (.invokevirtual 84, 3) := by decide +kernel
theorem dX3_mean_52 : decode cX3_mean 52 = .ok (.ireturn, 1) := by decide +kernel
theorem dX3_text_0 : decode cX3_text 0 = .ok (.aload_n 0, 1) := by decide +kernel
theorem dX3_text_1 : decode cX3_text 1 = .ok (.aload_n 0, 1) := by decide +kernel
theorem dX3_text_2 : decode cX3_text 2 = .ok (.getfield 18, 3) := by decide +kernel
theorem dX3_text_5 : decode cX3_text 5 = .ok (.iload_n 1, 1) := by decide +kernel
theorem dX3_text_6 : decode cX3_text 6 = .ok (.iload_n 2, 1) := by decide +kernel
theorem dX3_text_7 : decode cX3_text 7 = .ok (.bipush 32, 2) := by decide +kernel
theorem dX3_text_9 : decode cX3_text 9 = .ok (.invokevirtual 73, 3) := by decide +kernel
theorem dX3_text_12 : decode cX3_text 12 = .ok (.ireturn, 1) := by decide +kernel
theorem dX3_put_0 : decode cX3_put 0 = .ok (.aload_n 0, 1) := by decide +kernel
theorem dX3_put_1 : decode cX3_put 1 = .ok (.aload_n 0, 1) := by decide +kernel
theorem dX3_put_2 : decode cX3_put 2 = .ok (.getfield 18, 3) := by decide +kernel
theorem dX3_put_5 : decode cX3_put 5 = .ok (.iload_n 1, 1) := by decide +kernel
theorem dX3_put_6 : decode cX3_put 6 = .ok (.iload_n 2, 1) := by decide +kernel
theorem dX3_put_7 : decode cX3_put 7 = .ok (.invokevirtual 77, 3) := by decide +kernel
theorem dX3_put_10 : decode cX3_put 10 = .ok (.istore 4, 2) := by decide +kernel
theorem dX3_put_12 : decode cX3_put 12 = .ok (.iload 4, 2) := by decide +kernel
theorem dX3_put_14 : decode cX3_put 14 = .ok (.ifCond .eq 6, 3) := by decide +kernel
theorem dX3_put_17 : decode cX3_put 17 = .ok (.iload 4, 2) := by decide +kernel
theorem dX3_put_19 : decode cX3_put 19 = .ok (.ireturn, 1) := by decide +kernel
theorem dX3_put_20 : decode cX3_put 20 = .ok (.aload_n 0, 1) := by decide +kernel
theorem dX3_put_21 : decode cX3_put 21 = .ok (.getfield 18, 3) := by decide +kernel
theorem dX3_put_24 : decode cX3_put 24 = .ok (.getfield 81, 3) := by decide +kernel
theorem dX3_put_27 : decode cX3_put 27 = .ok (.iload_n 1, 1) := by decide +kernel
theorem dX3_put_28 : decode cX3_put 28 = .ok (.aaload, 1) := by decide +kernel
theorem dX3_put_29 : decode cX3_put 29 = .ok (.iload_n 2, 1) := by decide +kernel
theorem dX3_put_30 : decode cX3_put 30 = .ok (.iaload, 1) := by decide +kernel
theorem dX3_put_31 : decode cX3_put 31 = .ok (.istore 5, 2) := by decide +kernel
theorem dX3_put_33 : decode cX3_put 33 = .ok (.aload_n 0, 1) := by decide +kernel
theorem dX3_put_34 : decode cX3_put 34 = .ok (.getfield 18, 3) := by decide +kernel
theorem dX3_put_37 : decode cX3_put 37 = .ok (.getfield 81, 3) := by decide +kernel
theorem dX3_put_40 : decode cX3_put 40 = .ok (.iload_n 1, 1) := by decide +kernel
theorem dX3_put_41 : decode cX3_put 41 = .ok (.aaload, 1) := by decide +kernel
theorem dX3_put_42 : decode cX3_put 42 = .ok (.iload_n 2, 1) := by decide +kernel
theorem dX3_put_43 : decode cX3_put 43 = .ok (.iload_n 3, 1) := by decide +kernel
theorem dX3_put_44 : decode cX3_put 44 = .ok (.i2b, 1) := by decide +kernel
theorem dX3_put_45 : decode cX3_put 45 = .ok (.iastore, 1) := by decide +kernel
theorem dX3_put_46 : decode cX3_put 46 = .ok (.iload 5, 2) := by decide +kernel
theorem dX3_put_48 : decode cX3_put 48 = .ok (.sipush 1000, 3) := by decide +kernel
theorem dX3_put_51 : decode cX3_put 51 = .ok (.iadd, 1) := by decide +kernel
theorem dX3_put_52 : decode cX3_put 52 = .ok (.ireturn, 1) := by decide +kernel
theorem dX3_fault_0 : decode cX3_fault 0 = .ok (.aload_n 0, 1) := by decide +kernel
theorem dX3_fault_1 : decode cX3_fault 1 = .ok (.aload_n 0, 1) := by decide +kernel
theorem dX3_fault_2 : decode cX3_fault 2 = .ok (.getfield 18, 3) := by decide +kernel
theorem dX3_fault_5 : decode cX3_fault 5 = .ok (.iload_n 1, 1) := by decide +kernel
theorem dX3_fault_6 : decode cX3_fault 6 = .ok (.invokevirtual 88, 3) := by decide +kernel
theorem dX3_fault_9 : decode cX3_fault 9 = .ok (.istore_n 2, 1) := by decide +kernel
theorem dX3_fault_10 : decode cX3_fault 10 = .ok (.iload_n 2, 1) := by decide +kernel
theorem dX3_fault_11 : decode cX3_fault 11 = .ok (.ifCond .eq 7, 3) := by decide +kernel
theorem dX3_fault_14 : decode cX3_fault 14 = .ok (.iload_n 2, 1) := by decide +kernel
theorem dX3_fault_15 : decode cX3_fault 15 = .ok (.goto 24, 3) := by decide +kernel
theorem dX3_fault_18 : decode cX3_fault 18 = .ok (.aload_n 0, 1) := by decide +kernel
theorem dX3_fault_19 : decode cX3_fault 19 = .ok (.getfield 18, 3) := by decide +kernel
theorem dX3_fault_22 : decode cX3_fault 22 = .ok (.getfield 81, 3) := by decide +kernel
theorem dX3_fault_25 : decode cX3_fault 25 = .ok (.iload_n 1, 1) := by decide +kernel
theorem dX3_fault_26 : decode cX3_fault 26 = .ok (.aaload, 1) := by decide +kernel
theorem dX3_fault_27 : decode cX3_fault 27 = .ok (.aload_n 0, 1) := by decide +kernel
theorem dX3_fault_28 : decode cX3_fault 28 = .ok (.getfield 18, 3) := by decide +kernel
theorem dX3_fault_31 : decode cX3_fault 31 = .ok (.getfield 92, 3) := by decide +kernel
theorem dX3_fault_34 : decode cX3_fault 34 = .ok (.iload_n 1, 1) := by decide +kernel
theorem dX3_fault_35 : decode cX3_fault 35 = .ok (.iaload, 1) := by decide +kernel
theorem dX3_fault_36 : decode cX3_fault 36 = .ok (.invokestatic 119, 3) := by decide +kernel
theorem dX3_fault_39 : decode cX3_fault 39 = .ok (.ireturn, 1) := by decide +kernel
theorem dX3_gate_0 : decode cX3_gate 0 = .ok (.aload_n 0, 1) := by decide +kernel
theorem dX3_gate_1 : decode cX3_gate 1 = .ok (.aload_n 0, 1) := by decide +kernel
theorem dX3_gate_2 : decode cX3_gate 2 = .ok (.getfield 18, 3) := by decide +kernel
theorem dX3_gate_5 : decode cX3_gate 5 = .ok (.iload_n 1, 1) := by decide +kernel
theorem dX3_gate_6 : decode cX3_gate 6 = .ok (.invokevirtual 88, 3) := by decide +kernel
theorem dX3_gate_9 : decode cX3_gate 9 = .ok (.istore_n 2, 1) := by decide +kernel
theorem dX3_gate_10 : decode cX3_gate 10 = .ok (.iload_n 2, 1) := by decide +kernel
theorem dX3_gate_11 : decode cX3_gate 11 = .ok (.ifCond .eq 5, 3) := by decide +kernel
theorem dX3_gate_14 : decode cX3_gate 14 = .ok (.iload_n 2, 1) := by decide +kernel
theorem dX3_gate_15 : decode cX3_gate 15 = .ok (.ireturn, 1) := by decide +kernel
theorem dX3_gate_16 : decode cX3_gate 16 = .ok (.aload_n 0, 1) := by decide +kernel
theorem dX3_gate_17 : decode cX3_gate 17 = .ok (.getfield 18, 3) := by decide +kernel
theorem dX3_gate_20 : decode cX3_gate 20 = .ok (.getfield 81, 3) := by decide +kernel
theorem dX3_gate_23 : decode cX3_gate 23 = .ok (.iload_n 1, 1) := by decide +kernel
theorem dX3_gate_24 : decode cX3_gate 24 = .ok (.aaload, 1) := by decide +kernel
theorem dX3_gate_25 : decode cX3_gate 25 = .ok (.aload_n 0, 1) := by decide +kernel
theorem dX3_gate_26 : decode cX3_gate 26 = .ok (.getfield 18, 3) := by decide +kernel
theorem dX3_gate_29 : decode cX3_gate 29 = .ok (.getfield 92, 3) := by decide +kernel
theorem dX3_gate_32 : decode cX3_gate 32 = .ok (.iload_n 1, 1) := by decide +kernel
theorem dX3_gate_33 : decode cX3_gate 33 = .ok (.iaload, 1) := by decide +kernel
theorem dX3_gate_34 : decode cX3_gate 34 = .ok (.invokestatic 119, 3) := by decide +kernel
theorem dX3_gate_37 : decode cX3_gate 37 = .ok (.bipush (-9), 2) := by decide +kernel
theorem dX3_gate_39 : decode cX3_gate 39 = .ok (.if_icmp .eq 6, 3) := by decide +kernel
theorem dX3_gate_42 : decode cX3_gate 42 = .ok (.bipush (-4), 2) := by decide +kernel
theorem dX3_gate_44 : decode cX3_gate 44 = .ok (.ireturn, 1) := by decide +kernel
theorem dX3_gate_45 : decode cX3_gate 45 = .ok (.aload_n 0, 1) := by decide +kernel
theorem dX3_gate_46 : decode cX3_gate 46 = .ok (.getfield 24, 3) := by decide +kernel
theorem dX3_gate_49 : decode cX3_gate 49 = .ok (.aload_n 0, 1) := by decide +kernel
theorem dX3_gate_50 : decode cX3_gate 50 = .ok (.getfield 18, 3) := by decide +kernel
theorem dX3_gate_53 : decode cX3_gate 53 = .ok (.getfield 81, 3) := by decide +kernel
theorem dX3_gate_56 : decode cX3_gate 56 = .ok (.iload_n 1, 1) := by decide +kernel
theorem dX3_gate_57 : decode cX3_gate 57 = .ok (.aaload, 1) := by decide +kernel
theorem dX3_gate_58 : decode cX3_gate 58 = .ok (.aload_n 0, 1) := by decide +kernel
theorem dX3_gate_59 : decode cX3_gate 59 = .ok (.getfield 18, 3) := by decide +kernel
theorem dX3_gate_62 : decode cX3_gate 62 = .ok (.getfield 92, 3) := by decide +kernel
theorem dX3_gate_65 : decode cX3_gate 65 = .ok (.iload_n 1, 1) := by decide +kernel
theorem dX3_gate_66 : decode cX3_gate 66 = .ok (.iaload, 1) := by decide +kernel
theorem dX3_gate_67 : decode cX3_gate 67 = .ok (.invokevirtual 123, 3) := by decide +kernel
theorem dX3_gate_70 : decode cX3_gate 70 = .ok (.aload_n 0, 1) := by decide +kernel
theorem dX3_gate_71 : decode cX3_gate 71 = .ok (.getfield 40, 3) := by decide +kernel
theorem dX3_gate_74 : decode cX3_gate 74 = .ok (.iconst (-1), 1) := by decide +kernel
theorem dX3_gate_75 : decode cX3_gate 75 = .ok (.invokestatic 67, 3) := by decide +kernel
theorem dX3_gate_78 : decode cX3_gate 78 = .ok (.aload_n 0, 1) := by decide +kernel
theorem dX3_gate_79 : decode cX3_gate 79 = .ok (.getfield 24, 3) := by decide +kernel
theorem dX3_gate_82 : decode cX3_gate 82 = .ok (.getfield 126, 3) := by decide +kernel
theorem dX3_gate_85 : decode cX3_gate 85 = .ok (.ireturn, 1) := by decide +kernel
theorem dX3_goer_0 : decode cX3_goer 0 = .ok (.aload_n 0, 1) := by decide +kernel
theorem dX3_goer_1 : decode cX3_goer 1 = .ok (.getfield 24, 3) := by decide +kernel
theorem dX3_goer_4 : decode cX3_goer 4 = .ok (.iload_n 1, 1) := by decide +kernel
theorem dX3_goer_5 : decode cX3_goer 5 = .ok (.invokevirtual 129, 3) := by decide +kernel
theorem dX3_goer_8 : decode cX3_goer 8 = .ok (.ifCond .eq 13, 3) := by decide +kernel
theorem dX3_goer_11 : decode cX3_goer 11 = .ok (.iload_n 2, 1) := by decide +kernel
theorem dX3_goer_12 : decode cX3_goer 12 = .ok (.ifCond .lt 9, 3) := by decide +kernel
theorem dX3_goer_15 : decode cX3_goer 15 = .ok (.iload_n 2, 1) := by decide +kernel
theorem dX3_goer_16 : decode cX3_goer 16 = .ok (.bipush 7, 2) := by decide +kernel
theorem dX3_goer_18 : decode cX3_goer 18 = .ok (.if_icmp .lt 5, 3) := by decide +kernel
theorem dX3_goer_21 : decode cX3_goer 21 = .ok (.iconst (-1), 1) := by decide +kernel
theorem dX3_goer_22 : decode cX3_goer 22 = .ok (.ireturn, 1) := by decide +kernel
theorem dX3_goer_23 : decode cX3_goer 23 = .ok (.aload_n 0, 1) := by decide +kernel
theorem dX3_goer_24 : decode cX3_goer 24 = .ok (.aload_n 0, 1) := by decide +kernel
theorem dX3_goer_25 : decode cX3_goer 25 = .ok (.iload_n 1, 1) := by decide +kernel
theorem dX3_goer_26 : decode cX3_goer 26 = .ok (.iload_n 2, 1) := by decide +kernel
theorem dX3_goer_27 : decode cX3_goer 27 = .ok (.invokevirtual 130, 3) := by decide +kernel
theorem dX3_goer_30 : decode cX3_goer 30 = .ok (.invokevirtual 84, 3) := by decide +kernel
theorem dX3_goer_33 : decode cX3_goer 33 = .ok (.ireturn, 1) := by decide +kernel
theorem dX3_mark_0 : decode cX3_mark 0 = .ok (.aload_n 0, 1) := by decide +kernel
theorem dX3_mark_1 : decode cX3_mark 1 = .ok (.getfield 24, 3) := by decide +kernel
theorem dX3_mark_4 : decode cX3_mark 4 = .ok (.iload_n 1, 1) := by decide +kernel
theorem dX3_mark_5 : decode cX3_mark 5 = .ok (.invokevirtual 129, 3) := by decide +kernel
theorem dX3_mark_8 : decode cX3_mark 8 = .ok (.ifCond .eq 13, 3) := by decide +kernel
theorem dX3_mark_11 : decode cX3_mark 11 = .ok (.iload_n 2, 1) := by decide +kernel
theorem dX3_mark_12 : decode cX3_mark 12 = .ok (.ifCond .le 9, 3) := by decide +kernel
theorem dX3_mark_15 : decode cX3_mark 15 = .ok (.iload_n 2, 1) := by decide +kernel
theorem dX3_mark_16 : decode cX3_mark 16 = .ok (.bipush 6, 2) := by decide +kernel
theorem dX3_mark_18 : decode cX3_mark 18 = .ok (.if_icmp .lt 5, 3) := by decide +kernel
theorem dX3_mark_21 : decode cX3_mark 21 = .ok (.iconst (-1), 1) := by decide +kernel
theorem dX3_mark_22 : decode cX3_mark 22 = .ok (.ireturn, 1) := by decide +kernel
theorem dX3_mark_23 : decode cX3_mark 23 = .ok (.aload_n 0, 1) := by decide +kernel
theorem dX3_mark_24 : decode cX3_mark 24 = .ok (.getfield 24, 3) := by decide +kernel
theorem dX3_mark_27 : decode cX3_mark 27 = .ok (.getfield 134, 3) := by decide +kernel
theorem dX3_mark_30 : decode cX3_mark 30 = .ok (.iload_n 1, 1) := by decide +kernel
theorem dX3_mark_31 : decode cX3_mark 31 = .ok (.iaload, 1) := by decide +kernel
theorem dX3_mark_32 : decode cX3_mark 32 = .ok (.istore_n 3, 1) := by decide +kernel
theorem dX3_mark_33 : decode cX3_mark 33 = .ok (.iload_n 3, 1) := by decide +kernel
theorem dX3_mark_34 : decode cX3_mark 34 = .ok (.iload_n 2, 1) := by decide +kernel
theorem dX3_mark_35 : decode cX3_mark 35 = .ok (.if_icmp .eq 19, 3) := by decide +kernel
theorem dX3_mark_38 : decode cX3_mark 38 = .ok (.iload_n 3, 1) := by decide +kernel
theorem dX3_mark_39 : decode cX3_mark 39 = .ok (.iconst 5, 1) := by decide +kernel
theorem dX3_mark_40 : decode cX3_mark 40 = .ok (.if_icmp .ne 8, 3) := by decide +kernel
theorem dX3_mark_43 : decode cX3_mark 43 = .ok (.iload_n 2, 1) := by decide +kernel
theorem dX3_mark_44 : decode cX3_mark 44 = .ok (.iconst 4, 1) := by decide +kernel
theorem dX3_mark_45 : decode cX3_mark 45 = .ok (.if_icmp .eq 9, 3) := by decide +kernel
theorem dX3_mark_48 : decode cX3_mark 48 = .ok (.aload_n 0, 1) := by decide +kernel
theorem dX3_mark_49 : decode cX3_mark 49 = .ok (.iconst 3, 1) := by decide +kernel
theorem dX3_mark_50 : decode cX3_mark 50 = .ok (.invokevirtual 99, 3) := by decide +kernel
theorem dX3_mark_53 : decode cX3_mark 53 = .ok (.ireturn, 1) := by decide +kernel
theorem dX3_mark_54 : decode cX3_mark 54 = .ok (.iload_n 2, 1) := by decide +kernel
theorem dX3_mark_55 : decode cX3_mark 55 = .ok (.tableswitch 110 1 4 #[29, 51, 80, 98], 29) := by decide +kernel
theorem dX3_mark_84 : decode cX3_mark 84 = .ok (.aload_n 0, 1) := by decide +kernel
theorem dX3_mark_85 : decode cX3_mark 85 = .ok (.getfield 24, 3) := by decide +kernel
theorem dX3_mark_88 : decode cX3_mark 88 = .ok (.getfield 126, 3) := by decide +kernel
theorem dX3_mark_91 : decode cX3_mark 91 = .ok (.iconst 1, 1) := by decide +kernel
theorem dX3_mark_92 : decode cX3_mark 92 = .ok (.isub, 1) := by decide +kernel
theorem dX3_mark_93 : decode cX3_mark 93 = .ok (.aload_n 0, 1) := by decide +kernel
theorem dX3_mark_94 : decode cX3_mark 94 = .ok (.getfield 24, 3) := by decide +kernel
theorem dX3_mark_97 : decode cX3_mark 97 = .ok (.iload_n 1, 1) := by decide +kernel
theorem dX3_mark_98 : decode cX3_mark 98 = .ok (.invokevirtual 137, 3) := by decide +kernel
theorem dX3_mark_101 : decode cX3_mark 101 = .ok (.invokestatic 140, 3) := by decide +kernel
theorem dX3_mark_104 : decode cX3_mark 104 = .ok (.isub, 1) := by decide +kernel
theorem dX3_mark_105 : decode cX3_mark 105 = .ok (.ireturn, 1) := by decide +kernel
theorem dX3_mark_106 : decode cX3_mark 106 = .ok (.aload_n 0, 1) := by decide +kernel
theorem dX3_mark_107 : decode cX3_mark 107 = .ok (.getfield 24, 3) := by decide +kernel
theorem dX3_mark_110 : decode cX3_mark 110 = .ok (.iload_n 1, 1) := by decide +kernel
theorem dX3_mark_111 : decode cX3_mark 111 = .ok (.invokevirtual 145, 3) := by decide +kernel
theorem dX3_mark_114 : decode cX3_mark 114 = .ok (.aload_n 0, 1) := by decide +kernel
theorem dX3_mark_115 : decode cX3_mark 115 = .ok (.getfield 24, 3) := by decide +kernel
theorem dX3_mark_118 : decode cX3_mark 118 = .ok (.iload_n 1, 1) := by decide +kernel
theorem dX3_mark_119 : decode cX3_mark 119 = .ok (.invokevirtual 137, 3) := by decide +kernel
theorem dX3_mark_122 : decode cX3_mark 122 = .ok (.iconst (-1), 1) := by decide +kernel
theorem dX3_mark_123 : decode cX3_mark 123 = .ok (.ixor, 1) := by decide +kernel
theorem dX3_mark_124 : decode cX3_mark 124 = .ok (.iand, 1) := by decide +kernel
theorem dX3_mark_125 : decode cX3_mark 125 = .ok (.iconst 1, 1) := by decide +kernel
theorem dX3_mark_126 : decode cX3_mark 126 = .ok (.iload_n 1, 1) := by decide +kernel
theorem dX3_mark_127 : decode cX3_mark 127 = .ok (.ishl, 1) := by decide +kernel
theorem dX3_mark_128 : decode cX3_mark 128 = .ok (.iconst (-1), 1) := by decide +kernel
theorem dX3_mark_129 : decode cX3_mark 129 = .ok (.ixor, 1) := by decide +kernel
theorem dX3_mark_130 : decode cX3_mark 130 = .ok (.iand, 1) := by decide +kernel
theorem dX3_mark_131 : decode cX3_mark 131 = .ok (.invokestatic 140, 3) := by decide +kernel
theorem dX3_mark_134 : decode cX3_mark 134 = .ok (.ireturn, 1) := by decide +kernel
theorem dX3_mark_135 : decode cX3_mark 135 = .ok (.aload_n 0, 1) := by decide +kernel
theorem dX3_mark_136 : decode cX3_mark 136 = .ok (.getfield 24, 3) := by decide +kernel
theorem dX3_mark_139 : decode cX3_mark 139 = .ok (.iload_n 1, 1) := by decide +kernel
theorem dX3_mark_140 : decode cX3_mark 140 = .ok (.invokevirtual 145, 3) := by decide +kernel
theorem dX3_mark_143 : decode cX3_mark 143 = .ok (.iconst 1, 1) := by decide +kernel
theorem dX3_mark_144 : decode cX3_mark 144 = .ok (.iload_n 1, 1) := by decide +kernel
theorem dX3_mark_145 : decode cX3_mark 145 = .ok (.ishl, 1) := by decide +kernel
theorem dX3_mark_146 : decode cX3_mark 146 = .ok (.iconst (-1), 1) := by decide +kernel
theorem dX3_mark_147 : decode cX3_mark 147 = .ok (.ixor, 1) := by decide +kernel
theorem dX3_mark_148 : decode cX3_mark 148 = .ok (.iand, 1) := by decide +kernel
theorem dX3_mark_149 : decode cX3_mark 149 = .ok (.invokestatic 140, 3) := by decide +kernel
theorem dX3_mark_152 : decode cX3_mark 152 = .ok (.ireturn, 1) := by decide +kernel
theorem dX3_mark_153 : decode cX3_mark 153 = .ok (.aload_n 0, 1) := by decide +kernel
theorem dX3_mark_154 : decode cX3_mark 154 = .ok (.getfield 24, 3) := by decide +kernel
theorem dX3_mark_157 : decode cX3_mark 157 = .ok (.iload_n 1, 1) := by decide +kernel
theorem dX3_mark_158 : decode cX3_mark 158 = .ok (.invokevirtual 148, 3) := by decide +kernel
theorem dX3_mark_161 : decode cX3_mark 161 = .ok (.invokestatic 140, 3) := by decide +kernel
theorem dX3_mark_164 : decode cX3_mark 164 = .ok (.ireturn, 1) := by decide +kernel
theorem dX3_mark_165 : decode cX3_mark 165 = .ok (.aload_n 0, 1) := by decide +kernel
theorem dX3_mark_166 : decode cX3_mark 166 = .ok (.getfield 24, 3) := by decide +kernel
theorem dX3_mark_169 : decode cX3_mark 169 = .ok (.iload_n 1, 1) := by decide +kernel
theorem dX3_mark_170 : decode cX3_mark 170 = .ok (.invokevirtual 148, 3) := by decide +kernel
theorem dX3_mark_173 : decode cX3_mark 173 = .ok (.aload_n 0, 1) := by decide +kernel
theorem dX3_mark_174 : decode cX3_mark 174 = .ok (.getfield 24, 3) := by decide +kernel
theorem dX3_mark_177 : decode cX3_mark 177 = .ok (.invokevirtual 151, 3) := by decide +kernel
theorem dX3_mark_180 : decode cX3_mark 180 = .ok (.iand, 1) := by decide +kernel
theorem dX3_mark_181 : decode cX3_mark 181 = .ok (.invokestatic 140, 3) := by decide +kernel
theorem dX3_mark_184 : decode cX3_mark 184 = .ok (.ireturn, 1) := by decide +kernel
theorem dX3_tells_0 : decode cX3_tells 0 = .ok (.aload_n 0, 1) := by decide +kernel
theorem dX3_tells_1 : decode cX3_tells 1 = .ok (.getfield 24, 3) := by decide +kernel
theorem dX3_tells_4 : decode cX3_tells 4 = .ok (.iload_n 1, 1) := by decide +kernel
theorem dX3_tells_5 : decode cX3_tells 5 = .ok (.invokevirtual 129, 3) := by decide +kernel
theorem dX3_tells_8 : decode cX3_tells 8 = .ok (.ifCond .eq 14, 3) := by decide +kernel
theorem dX3_tells_11 : decode cX3_tells 11 = .ok (.aload_n 0, 1) := by decide +kernel
theorem dX3_tells_12 : decode cX3_tells 12 = .ok (.getfield 24, 3) := by decide +kernel
theorem dX3_tells_15 : decode cX3_tells 15 = .ok (.iload_n 2, 1) := by decide +kernel
theorem dX3_tells_16 : decode cX3_tells 16 = .ok (.invokevirtual 155, 3) := by decide +kernel
theorem dX3_tells_19 : decode cX3_tells 19 = .ok (.ifCond .ne 5, 3) := by decide +kernel
theorem dX3_tells_22 : decode cX3_tells 22 = .ok (.iconst (-1), 1) := by decide +kernel
theorem dX3_tells_23 : decode cX3_tells 23 = .ok (.ireturn, 1) := by decide +kernel
theorem dX3_tells_24 : decode cX3_tells 24 = .ok (.aload_n 0, 1) := by decide +kernel
theorem dX3_tells_25 : decode cX3_tells 25 = .ok (.getfield 24, 3) := by decide +kernel
theorem dX3_tells_28 : decode cX3_tells 28 = .ok (.getfield 134, 3) := by decide +kernel
theorem dX3_tells_31 : decode cX3_tells 31 = .ok (.iload_n 1, 1) := by decide +kernel
theorem dX3_tells_32 : decode cX3_tells 32 = .ok (.iaload, 1) := by decide +kernel
theorem dX3_tells_33 : decode cX3_tells 33 = .ok (.iload_n 1, 1) := by decide +kernel
theorem dX3_tells_34 : decode cX3_tells 34 = .ok (.iload_n 2, 1) := by decide +kernel
theorem dX3_tells_35 : decode cX3_tells 35 = .ok (.invokestatic 158, 3) := by decide +kernel
theorem dX3_tells_38 : decode cX3_tells 38 = .ok (.ireturn, 1) := by decide +kernel
theorem dX3_meet_0 : decode cX3_meet 0 = .ok (.aload_n 0, 1) := by decide +kernel
theorem dX3_meet_1 : decode cX3_meet 1 = .ok (.getfield 24, 3) := by decide +kernel
theorem dX3_meet_4 : decode cX3_meet 4 = .ok (.iload_n 1, 1) := by decide +kernel
theorem dX3_meet_5 : decode cX3_meet 5 = .ok (.invokevirtual 129, 3) := by decide +kernel
theorem dX3_meet_8 : decode cX3_meet 8 = .ok (.ifCond .eq 19, 3) := by decide +kernel
theorem dX3_meet_11 : decode cX3_meet 11 = .ok (.aload_n 0, 1) := by decide +kernel
theorem dX3_meet_12 : decode cX3_meet 12 = .ok (.getfield 24, 3) := by decide +kernel
theorem dX3_meet_15 : decode cX3_meet 15 = .ok (.iload_n 2, 1) := by decide +kernel
theorem dX3_meet_16 : decode cX3_meet 16 = .ok (.invokevirtual 129, 3) := by decide +kernel
theorem dX3_meet_19 : decode cX3_meet 19 = .ok (.ifCond .eq 8, 3) := by decide +kernel
theorem dX3_meet_22 : decode cX3_meet 22 = .ok (.iload_n 1, 1) := by decide +kernel
theorem dX3_meet_23 : decode cX3_meet 23 = .ok (.iload_n 2, 1) := by decide +kernel
theorem dX3_meet_24 : decode cX3_meet 24 = .ok (.if_icmp .ne 5, 3) := by decide +kernel
theorem dX3_meet_27 : decode cX3_meet 27 = .ok (.iconst (-1), 1) := by decide +kernel
theorem dX3_meet_28 : decode cX3_meet 28 = .ok (.ireturn, 1) := by decide +kernel
theorem dX3_meet_29 : decode cX3_meet 29 = .ok (.aload_n 0, 1) := by decide +kernel
theorem dX3_meet_30 : decode cX3_meet 30 = .ok (.getfield 24, 3) := by decide +kernel
theorem dX3_meet_33 : decode cX3_meet 33 = .ok (.iload_n 1, 1) := by decide +kernel
theorem dX3_meet_34 : decode cX3_meet 34 = .ok (.iload_n 2, 1) := by decide +kernel
theorem dX3_meet_35 : decode cX3_meet 35 = .ok (.invokevirtual 162, 3) := by decide +kernel
theorem dX3_meet_38 : decode cX3_meet 38 = .ok (.ifCond .ne 6, 3) := by decide +kernel
theorem dX3_meet_41 : decode cX3_meet 41 = .ok (.bipush (-4), 2) := by decide +kernel
theorem dX3_meet_43 : decode cX3_meet 43 = .ok (.ireturn, 1) := by decide +kernel
theorem dX3_meet_44 : decode cX3_meet 44 = .ok (.aload_n 0, 1) := by decide +kernel
theorem dX3_meet_45 : decode cX3_meet 45 = .ok (.getfield 24, 3) := by decide +kernel
theorem dX3_meet_48 : decode cX3_meet 48 = .ok (.invokevirtual 166, 3) := by decide +kernel
theorem dX3_meet_51 : decode cX3_meet 51 = .ok (.iconst 1, 1) := by decide +kernel
theorem dX3_meet_52 : decode cX3_meet 52 = .ok (.if_icmp .ge 6, 3) := by decide +kernel
theorem dX3_meet_55 : decode cX3_meet 55 = .ok (.bipush (-2), 2) := by decide +kernel
theorem dX3_meet_57 : decode cX3_meet 57 = .ok (.ireturn, 1) := by decide +kernel
theorem dX3_meet_58 : decode cX3_meet 58 = .ok (.aload_n 0, 1) := by decide +kernel
theorem dX3_meet_59 : decode cX3_meet 59 = .ok (.getfield 24, 3) := by decide +kernel
theorem dX3_meet_62 : decode cX3_meet 62 = .ok (.invokevirtual 169, 3) := by decide +kernel
theorem dX3_meet_65 : decode cX3_meet 65 = .ok (.istore_n 3, 1) := by decide +kernel
theorem dX3_meet_66 : decode cX3_meet 66 = .ok (.aload_n 0, 1) := by decide +kernel
theorem dX3_meet_67 : decode cX3_meet 67 = .ok (.getfield 24, 3) := by decide +kernel
theorem dX3_meet_70 : decode cX3_meet 70 = .ok (.iconst 1, 1) := by decide +kernel
theorem dX3_meet_71 : decode cX3_meet 71 = .ok (.iload_n 1, 1) := by decide +kernel
theorem dX3_meet_72 : decode cX3_meet 72 = .ok (.iload_n 2, 1) := by decide +kernel
theorem dX3_meet_73 : decode cX3_meet 73 = .ok (.invokevirtual 172, 3) := by decide +kernel
theorem dX3_meet_76 : decode cX3_meet 76 = .ok (.aload_n 0, 1) := by decide +kernel
theorem dX3_meet_77 : decode cX3_meet 77 = .ok (.getfield 24, 3) := by decide +kernel
theorem dX3_meet_80 : decode cX3_meet 80 = .ok (.invokevirtual 169, 3) := by decide +kernel
theorem dX3_meet_83 : decode cX3_meet 83 = .ok (.iload_n 3, 1) := by decide +kernel
theorem dX3_meet_84 : decode cX3_meet 84 = .ok (.isub, 1) := by decide +kernel
theorem dX3_meet_85 : decode cX3_meet 85 = .ok (.ireturn, 1) := by decide +kernel
theorem dX3_card_0 : decode cX3_card 0 = .ok (.aload_n 0, 1) := by decide +kernel
theorem dX3_card_1 : decode cX3_card 1 = .ok (.iload_n 1, 1) := by decide +kernel
theorem dX3_card_2 : decode cX3_card 2 = .ok (.invokevirtual 176, 3) := by decide +kernel
theorem dX3_card_5 : decode cX3_card 5 = .ok (.istore_n 2, 1) := by decide +kernel
theorem dX3_card_6 : decode cX3_card 6 = .ok (.iload_n 2, 1) := by decide +kernel
theorem dX3_card_7 : decode cX3_card 7 = .ok (.ifCond .eq 5, 3) := by decide +kernel
theorem dX3_card_10 : decode cX3_card 10 = .ok (.iload_n 2, 1) := by decide +kernel
theorem dX3_card_11 : decode cX3_card 11 = .ok (.ireturn, 1) := by decide +kernel
theorem dX3_card_12 : decode cX3_card 12 = .ok (.aload_n 0, 1) := by decide +kernel
theorem dX3_card_13 : decode cX3_card 13 = .ok (.getfield 24, 3) := by decide +kernel
theorem dX3_card_16 : decode cX3_card 16 = .ok (.iconst 2, 1) := by decide +kernel
theorem dX3_card_17 : decode cX3_card 17 = .ok (.iload_n 1, 1) := by decide +kernel
theorem dX3_card_18 : decode cX3_card 18 = .ok (.iconst 0, 1) := by decide +kernel
theorem dX3_card_19 : decode cX3_card 19 = .ok (.invokevirtual 172, 3) := by decide +kernel
theorem dX3_card_22 : decode cX3_card 22 = .ok (.aload_n 0, 1) := by decide +kernel
theorem dX3_card_23 : decode cX3_card 23 = .ok (.getfield 24, 3) := by decide +kernel
theorem dX3_card_26 : decode cX3_card 26 = .ok (.getfield 179, 3) := by decide +kernel
theorem dX3_card_29 : decode cX3_card 29 = .ok (.ireturn, 1) := by decide +kernel
theorem dX3_reads_0 : decode cX3_reads 0 = .ok (.aload_n 0, 1) := by decide +kernel
theorem dX3_reads_1 : decode cX3_reads 1 = .ok (.iload_n 1, 1) := by decide +kernel
theorem dX3_reads_2 : decode cX3_reads 2 = .ok (.invokevirtual 176, 3) := by decide +kernel
theorem dX3_reads_5 : decode cX3_reads 5 = .ok (.istore_n 2, 1) := by decide +kernel
theorem dX3_reads_6 : decode cX3_reads 6 = .ok (.iload_n 2, 1) := by decide +kernel
theorem dX3_reads_7 : decode cX3_reads 7 = .ok (.ifCond .eq 5, 3) := by decide +kernel
theorem dX3_reads_10 : decode cX3_reads 10 = .ok (.iload_n 2, 1) := by decide +kernel
theorem dX3_reads_11 : decode cX3_reads 11 = .ok (.ireturn, 1) := by decide +kernel
theorem dX3_reads_12 : decode cX3_reads 12 = .ok (.aload_n 0, 1) := by decide +kernel
theorem dX3_reads_13 : decode cX3_reads 13 = .ok (.getfield 24, 3) := by decide +kernel
theorem dX3_reads_16 : decode cX3_reads 16 = .ok (.invokevirtual 169, 3) := by decide +kernel
theorem dX3_reads_19 : decode cX3_reads 19 = .ok (.istore_n 3, 1) := by decide +kernel
theorem dX3_reads_20 : decode cX3_reads 20 = .ok (.aload_n 0, 1) := by decide +kernel
theorem dX3_reads_21 : decode cX3_reads 21 = .ok (.getfield 24, 3) := by decide +kernel
theorem dX3_reads_24 : decode cX3_reads 24 = .ok (.iconst 3, 1) := by decide +kernel
theorem dX3_reads_25 : decode cX3_reads 25 = .ok (.iload_n 1, 1) := by decide +kernel
theorem dX3_reads_26 : decode cX3_reads 26 = .ok (.iconst 0, 1) := by decide +kernel
theorem dX3_reads_27 : decode cX3_reads 27 = .ok (.invokevirtual 172, 3) := by decide +kernel
theorem dX3_reads_30 : decode cX3_reads 30 = .ok (.aload_n 0, 1) := by decide +kernel
theorem dX3_reads_31 : decode cX3_reads 31 = .ok (.getfield 24, 3) := by decide +kernel
theorem dX3_reads_34 : decode cX3_reads 34 = .ok (.invokevirtual 169, 3) := by decide +kernel
theorem dX3_reads_37 : decode cX3_reads 37 = .ok (.iload_n 3, 1) := by decide +kernel
theorem dX3_reads_38 : decode cX3_reads 38 = .ok (.isub, 1) := by decide +kernel
theorem dX3_reads_39 : decode cX3_reads 39 = .ok (.ireturn, 1) := by decide +kernel
theorem dX3_go_0 : decode cX3_go 0 = .ok (.aload_n 0, 1) := by decide +kernel
theorem dX3_go_1 : decode cX3_go 1 = .ok (.getfield 24, 3) := by decide +kernel
theorem dX3_go_4 : decode cX3_go 4 = .ok (.iload_n 1, 1) := by decide +kernel
theorem dX3_go_5 : decode cX3_go 5 = .ok (.invokevirtual 129, 3) := by decide +kernel
theorem dX3_go_8 : decode cX3_go 8 = .ok (.ifCond .ne 5, 3) := by decide +kernel
theorem dX3_go_11 : decode cX3_go 11 = .ok (.iconst (-1), 1) := by decide +kernel
theorem dX3_go_12 : decode cX3_go 12 = .ok (.ireturn, 1) := by decide +kernel
theorem dX3_go_13 : decode cX3_go 13 = .ok (.aload_n 0, 1) := by decide +kernel
theorem dX3_go_14 : decode cX3_go 14 = .ok (.getfield 24, 3) := by decide +kernel
theorem dX3_go_17 : decode cX3_go 17 = .ok (.iload_n 1, 1) := by decide +kernel
theorem dX3_go_18 : decode cX3_go 18 = .ok (.invokevirtual 182, 3) := by decide +kernel
theorem dX3_go_21 : decode cX3_go 21 = .ok (.ifCond .ne 6, 3) := by decide +kernel
theorem dX3_go_24 : decode cX3_go 24 = .ok (.bipush (-4), 2) := by decide +kernel
theorem dX3_go_26 : decode cX3_go 26 = .ok (.ireturn, 1) := by decide +kernel
theorem dX3_go_27 : decode cX3_go 27 = .ok (.aload_n 0, 1) := by decide +kernel
theorem dX3_go_28 : decode cX3_go 28 = .ok (.getfield 24, 3) := by decide +kernel
theorem dX3_go_31 : decode cX3_go 31 = .ok (.invokevirtual 166, 3) := by decide +kernel
theorem dX3_go_34 : decode cX3_go 34 = .ok (.iconst 1, 1) := by decide +kernel
theorem dX3_go_35 : decode cX3_go 35 = .ok (.if_icmp .ge 6, 3) := by decide +kernel
theorem dX3_go_38 : decode cX3_go 38 = .ok (.bipush (-2), 2) := by decide +kernel
theorem dX3_go_40 : decode cX3_go 40 = .ok (.ireturn, 1) := by decide +kernel
theorem dX3_go_41 : decode cX3_go 41 = .ok (.aload_n 0, 1) := by decide +kernel
theorem dX3_go_42 : decode cX3_go 42 = .ok (.getfield 24, 3) := by decide +kernel
theorem dX3_go_45 : decode cX3_go 45 = .ok (.iconst 4, 1) := by decide +kernel
theorem dX3_go_46 : decode cX3_go 46 = .ok (.iload_n 1, 1) := by decide +kernel
theorem dX3_go_47 : decode cX3_go 47 = .ok (.iconst 0, 1) := by decide +kernel
theorem dX3_go_48 : decode cX3_go 48 = .ok (.invokevirtual 172, 3) := by decide +kernel
theorem dX3_go_51 : decode cX3_go 51 = .ok (.aload_n 0, 1) := by decide +kernel
theorem dX3_go_52 : decode cX3_go 52 = .ok (.getfield 24, 3) := by decide +kernel
theorem dX3_go_55 : decode cX3_go 55 = .ok (.getfield 185, 3) := by decide +kernel
theorem dX3_go_58 : decode cX3_go 58 = .ok (.invokestatic 140, 3) := by decide +kernel
theorem dX3_go_61 : decode cX3_go 61 = .ok (.ireturn, 1) := by decide +kernel
theorem dX3_undo_0 : decode cX3_undo 0 = .ok (.iload_n 1, 1) := by decide +kernel
theorem dX3_undo_1 : decode cX3_undo 1 = .ok (.ifCond .lt 14, 3) := by decide +kernel
theorem dX3_undo_4 : decode cX3_undo 4 = .ok (.iload_n 1, 1) := by decide +kernel
theorem dX3_undo_5 : decode cX3_undo 5 = .ok (.aload_n 0, 1) := by decide +kernel
theorem dX3_undo_6 : decode cX3_undo 6 = .ok (.getfield 24, 3) := by decide +kernel
theorem dX3_undo_9 : decode cX3_undo 9 = .ok (.getfield 188, 3) := by decide +kernel
theorem dX3_undo_12 : decode cX3_undo 12 = .ok (.if_icmp .le 5, 3) := by decide +kernel
theorem dX3_undo_15 : decode cX3_undo 15 = .ok (.iconst (-1), 1) := by decide +kernel
theorem dX3_undo_16 : decode cX3_undo 16 = .ok (.ireturn, 1) := by decide +kernel
theorem dX3_undo_17 : decode cX3_undo 17 = .ok (.aload_n 0, 1) := by decide +kernel
theorem dX3_undo_18 : decode cX3_undo 18 = .ok (.getfield 24, 3) := by decide +kernel
theorem dX3_undo_21 : decode cX3_undo 21 = .ok (.getfield 188, 3) := by decide +kernel
theorem dX3_undo_24 : decode cX3_undo 24 = .ok (.iload_n 1, 1) := by decide +kernel
theorem dX3_undo_25 : decode cX3_undo 25 = .ok (.isub, 1) := by decide +kernel
theorem dX3_undo_26 : decode cX3_undo 26 = .ok (.istore_n 2, 1) := by decide +kernel
theorem dX3_undo_27 : decode cX3_undo 27 = .ok (.aload_n 0, 1) := by decide +kernel
theorem dX3_undo_28 : decode cX3_undo 28 = .ok (.getfield 24, 3) := by decide +kernel
theorem dX3_undo_31 : decode cX3_undo 31 = .ok (.aload_n 0, 1) := by decide +kernel
theorem dX3_undo_32 : decode cX3_undo 32 = .ok (.getfield 24, 3) := by decide +kernel
theorem dX3_undo_35 : decode cX3_undo 35 = .ok (.getfield 191, 3) := by decide +kernel
theorem dX3_undo_38 : decode cX3_undo 38 = .ok (.iload_n 1, 1) := by decide +kernel
theorem dX3_undo_39 : decode cX3_undo 39 = .ok (.invokevirtual 194, 3) := by decide +kernel
theorem dX3_undo_42 : decode cX3_undo 42 = .ok (.iload_n 2, 1) := by decide +kernel
theorem dX3_undo_43 : decode cX3_undo 43 = .ok (.ireturn, 1) := by decide +kernel
theorem dX3_keep_0 : decode cX3_keep 0 = .ok (.iload_n 1, 1) := by decide +kernel
theorem dX3_keep_1 : decode cX3_keep 1 = .ok (.ifCond .lt 8, 3) := by decide +kernel
theorem dX3_keep_4 : decode cX3_keep 4 = .ok (.iload_n 1, 1) := by decide +kernel
theorem dX3_keep_5 : decode cX3_keep 5 = .ok (.iconst 3, 1) := by decide +kernel
theorem dX3_keep_6 : decode cX3_keep 6 = .ok (.if_icmp .lt 5, 3) := by decide +kernel
theorem dX3_keep_9 : decode cX3_keep 9 = .ok (.iconst (-1), 1) := by decide +kernel
theorem dX3_keep_10 : decode cX3_keep 10 = .ok (.ireturn, 1) := by decide +kernel
theorem dX3_keep_11 : decode cX3_keep 11 = .ok (.aload_n 0, 1) := by decide +kernel
theorem dX3_keep_12 : decode cX3_keep 12 = .ok (.getfield 24, 3) := by decide +kernel
theorem dX3_keep_15 : decode cX3_keep 15 = .ok (.getfield 126, 3) := by decide +kernel
theorem dX3_keep_18 : decode cX3_keep 18 = .ok (.ifCond .ne 6, 3) := by decide +kernel
theorem dX3_keep_21 : decode cX3_keep 21 = .ok (.bipush (-4), 2) := by decide +kernel
theorem dX3_keep_23 : decode cX3_keep 23 = .ok (.ireturn, 1) := by decide +kernel
theorem dX3_keep_24 : decode cX3_keep 24 = .ok (.aload_n 0, 1) := by decide +kernel
theorem dX3_keep_25 : decode cX3_keep 25 = .ok (.getfield 24, 3) := by decide +kernel
theorem dX3_keep_28 : decode cX3_keep 28 = .ok (.getfield 191, 3) := by decide +kernel
theorem dX3_keep_31 : decode cX3_keep 31 = .ok (.iconst 0, 1) := by decide +kernel
theorem dX3_keep_32 : decode cX3_keep 32 = .ok (.aload_n 0, 1) := by decide +kernel
theorem dX3_keep_33 : decode cX3_keep 33 = .ok (.getfield 37, 3) := by decide +kernel
theorem dX3_keep_36 : decode cX3_keep 36 = .ok (.iload_n 1, 1) := by decide +kernel
theorem dX3_keep_37 : decode cX3_keep 37 = .ok (.aaload, 1) := by decide +kernel
theorem dX3_keep_38 : decode cX3_keep 38 = .ok (.iconst 0, 1) := by decide +kernel
theorem dX3_keep_39 : decode cX3_keep 39 = .ok (.aload_n 0, 1) := by decide +kernel
theorem dX3_keep_40 : decode cX3_keep 40 = .ok (.getfield 24, 3) := by decide +kernel
theorem dX3_keep_43 : decode cX3_keep 43 = .ok (.getfield 188, 3) := by decide +kernel
theorem dX3_keep_46 : decode cX3_keep 46 = .ok (.invokestatic 109, 3) := by decide +kernel
theorem dX3_keep_49 : decode cX3_keep 49 = .ok (.aload_n 0, 1) := by decide +kernel
theorem dX3_keep_50 : decode cX3_keep 50 = .ok (.getfield 40, 3) := by decide +kernel
theorem dX3_keep_53 : decode cX3_keep 53 = .ok (.iload_n 1, 1) := by decide +kernel
theorem dX3_keep_54 : decode cX3_keep 54 = .ok (.aload_n 0, 1) := by decide +kernel
theorem dX3_keep_55 : decode cX3_keep 55 = .ok (.getfield 24, 3) := by decide +kernel
theorem dX3_keep_58 : decode cX3_keep 58 = .ok (.getfield 188, 3) := by decide +kernel
theorem dX3_keep_61 : decode cX3_keep 61 = .ok (.iastore, 1) := by decide +kernel
theorem dX3_keep_62 : decode cX3_keep 62 = .ok (.aload_n 0, 1) := by decide +kernel
theorem dX3_keep_63 : decode cX3_keep 63 = .ok (.getfield 24, 3) := by decide +kernel
theorem dX3_keep_66 : decode cX3_keep 66 = .ok (.getfield 188, 3) := by decide +kernel
theorem dX3_keep_69 : decode cX3_keep 69 = .ok (.ireturn, 1) := by decide +kernel
theorem dX3_on_0 : decode cX3_on 0 = .ok (.iload_n 1, 1) := by decide +kernel
theorem dX3_on_1 : decode cX3_on 1 = .ok (.ifCond .lt 8, 3) := by decide +kernel
theorem dX3_on_4 : decode cX3_on 4 = .ok (.iload_n 1, 1) := by decide +kernel
theorem dX3_on_5 : decode cX3_on 5 = .ok (.iconst 3, 1) := by decide +kernel
theorem dX3_on_6 : decode cX3_on 6 = .ok (.if_icmp .lt 5, 3) := by decide +kernel
theorem dX3_on_9 : decode cX3_on 9 = .ok (.iconst (-1), 1) := by decide +kernel
theorem dX3_on_10 : decode cX3_on 10 = .ok (.ireturn, 1) := by decide +kernel
theorem dX3_on_11 : decode cX3_on 11 = .ok (.aload_n 0, 1) := by decide +kernel
theorem dX3_on_12 : decode cX3_on 12 = .ok (.getfield 40, 3) := by decide +kernel
theorem dX3_on_15 : decode cX3_on 15 = .ok (.iload_n 1, 1) := by decide +kernel
theorem dX3_on_16 : decode cX3_on 16 = .ok (.iaload, 1) := by decide +kernel
theorem dX3_on_17 : decode cX3_on 17 = .ok (.ifCond .ge 9, 3) := by decide +kernel
theorem dX3_on_20 : decode cX3_on 20 = .ok (.aload_n 0, 1) := by decide +kernel
theorem dX3_on_21 : decode cX3_on 21 = .ok (.iconst 1, 1) := by decide +kernel
theorem dX3_on_22 : decode cX3_on 22 = .ok (.invokevirtual 99, 3) := by decide +kernel
theorem dX3_on_25 : decode cX3_on 25 = .ok (.ireturn, 1) := by decide +kernel
theorem dX3_on_26 : decode cX3_on 26 = .ok (.aload_n 0, 1) := by decide +kernel
theorem dX3_on_27 : decode cX3_on 27 = .ok (.getfield 24, 3) := by decide +kernel
theorem dX3_on_30 : decode cX3_on 30 = .ok (.aload_n 0, 1) := by decide +kernel
theorem dX3_on_31 : decode cX3_on 31 = .ok (.getfield 37, 3) := by decide +kernel
theorem dX3_on_34 : decode cX3_on 34 = .ok (.iload_n 1, 1) := by decide +kernel
theorem dX3_on_35 : decode cX3_on 35 = .ok (.aaload, 1) := by decide +kernel
theorem dX3_on_36 : decode cX3_on 36 = .ok (.aload_n 0, 1) := by decide +kernel
theorem dX3_on_37 : decode cX3_on 37 = .ok (.getfield 40, 3) := by decide +kernel
theorem dX3_on_40 : decode cX3_on 40 = .ok (.iload_n 1, 1) := by decide +kernel
theorem dX3_on_41 : decode cX3_on 41 = .ok (.iaload, 1) := by decide +kernel
theorem dX3_on_42 : decode cX3_on 42 = .ok (.invokevirtual 194, 3) := by decide +kernel
theorem dX3_on_45 : decode cX3_on 45 = .ok (.aload_n 0, 1) := by decide +kernel
theorem dX3_on_46 : decode cX3_on 46 = .ok (.getfield 24, 3) := by decide +kernel
theorem dX3_on_49 : decode cX3_on 49 = .ok (.getfield 188, 3) := by decide +kernel
theorem dX3_on_52 : decode cX3_on 52 = .ok (.ireturn, 1) := by decide +kernel
theorem dX3_open_0 : decode cX3_open 0 = .ok (.iconst 1, 1) := by decide +kernel
theorem dX3_open_1 : decode cX3_open 1 = .ok (.aload_n 0, 1) := by decide +kernel
theorem dX3_open_2 : decode cX3_open 2 = .ok (.getfield 24, 3) := by decide +kernel
theorem dX3_open_5 : decode cX3_open 5 = .ok (.getfield 126, 3) := by decide +kernel
theorem dX3_open_8 : decode cX3_open 8 = .ok (.ishl, 1) := by decide +kernel
theorem dX3_open_9 : decode cX3_open 9 = .ok (.iconst 1, 1) := by decide +kernel
theorem dX3_open_10 : decode cX3_open 10 = .ok (.isub, 1) := by decide +kernel
theorem dX3_open_11 : decode cX3_open 11 = .ok (.istore_n 1, 1) := by decide +kernel
theorem dX3_open_12 : decode cX3_open 12 = .ok (.aload_n 0, 1) := by decide +kernel
theorem dX3_open_13 : decode cX3_open 13 = .ok (.aload_n 0, 1) := by decide +kernel
theorem dX3_open_14 : decode cX3_open 14 = .ok (.getfield 24, 3) := by decide +kernel
theorem dX3_open_17 : decode cX3_open 17 = .ok (.getfield 197, 3) := by decide +kernel
theorem dX3_open_20 : decode cX3_open 20 = .ok (.bipush (-9), 2) := by decide +kernel
theorem dX3_open_22 : decode cX3_open 22 = .ok (.if_icmp .ne 7, 3) := by decide +kernel
theorem dX3_open_25 : decode cX3_open 25 = .ok (.iload_n 1, 1) := by decide +kernel
theorem dX3_open_26 : decode cX3_open 26 = .ok (.goto 17, 3) := by decide +kernel
theorem dX3_open_29 : decode cX3_open 29 = .ok (.aload_n 0, 1) := by decide +kernel
theorem dX3_open_30 : decode cX3_open 30 = .ok (.getfield 24, 3) := by decide +kernel
theorem dX3_open_33 : decode cX3_open 33 = .ok (.aload_n 0, 1) := by decide +kernel
theorem dX3_open_34 : decode cX3_open 34 = .ok (.getfield 24, 3) := by decide +kernel
theorem dX3_open_37 : decode cX3_open 37 = .ok (.getfield 197, 3) := by decide +kernel
theorem dX3_open_40 : decode cX3_open 40 = .ok (.invokevirtual 145, 3) := by decide +kernel
theorem dX3_open_43 : decode cX3_open 43 = .ok (.invokestatic 140, 3) := by decide +kernel
theorem dX3_open_46 : decode cX3_open 46 = .ok (.putfield 57, 3) := by decide +kernel
theorem dX3_open_49 : decode cX3_open 49 = .ok (.aload_n 0, 1) := by decide +kernel
theorem dX3_open_50 : decode cX3_open 50 = .ok (.getfield 24, 3) := by decide +kernel
theorem dX3_open_53 : decode cX3_open 53 = .ok (.invokevirtual 200, 3) := by decide +kernel
theorem dX3_open_56 : decode cX3_open 56 = .ok (.ireturn, 1) := by decide +kernel
theorem dX3_most_0 : decode cX3_most 0 = .ok (.aload_n 0, 1) := by decide +kernel
theorem dX3_most_1 : decode cX3_most 1 = .ok (.getfield 14, 3) := by decide +kernel
theorem dX3_most_4 : decode cX3_most 4 = .ok (.iload_n 1, 1) := by decide +kernel
theorem dX3_most_5 : decode cX3_most 5 = .ok (.invokevirtual 95, 3) := by decide +kernel
theorem dX3_most_8 : decode cX3_most 8 = .ok (.ifCond .ne 5, 3) := by decide +kernel
theorem dX3_most_11 : decode cX3_most 11 = .ok (.iconst (-1), 1) := by decide +kernel
theorem dX3_most_12 : decode cX3_most 12 = .ok (.ireturn, 1) := by decide +kernel
theorem dX3_most_13 : decode cX3_most 13 = .ok (.aload_n 0, 1) := by decide +kernel
theorem dX3_most_14 : decode cX3_most 14 = .ok (.getfield 24, 3) := by decide +kernel
theorem dX3_most_17 : decode cX3_most 17 = .ok (.getfield 126, 3) := by decide +kernel
theorem dX3_most_20 : decode cX3_most 20 = .ok (.ifCond .ne 6, 3) := by decide +kernel
theorem dX3_most_23 : decode cX3_most 23 = .ok (.bipush (-4), 2) := by decide +kernel
theorem dX3_most_25 : decode cX3_most 25 = .ok (.ireturn, 1) := by decide +kernel
theorem dX3_most_26 : decode cX3_most 26 = .ok (.aload_n 0, 1) := by decide +kernel
theorem dX3_most_27 : decode cX3_most 27 = .ok (.getfield 31, 3) := by decide +kernel
theorem dX3_most_30 : decode cX3_most 30 = .ok (.aload_n 0, 1) := by decide +kernel
theorem dX3_most_31 : decode cX3_most 31 = .ok (.getfield 24, 3) := by decide +kernel
theorem dX3_most_34 : decode cX3_most 34 = .ok (.aload_n 0, 1) := by decide +kernel
theorem dX3_most_35 : decode cX3_most 35 = .ok (.getfield 24, 3) := by decide +kernel
theorem dX3_most_38 : decode cX3_most 38 = .ok (.getfield 203, 3) := by decide +kernel
theorem dX3_most_41 : decode cX3_most 41 = .ok (.invokevirtual 206, 3) := by decide +kernel
theorem dX3_most_44 : decode cX3_most 44 = .ok (.aload_n 0, 1) := by decide +kernel
theorem dX3_most_45 : decode cX3_most 45 = .ok (.getfield 31, 3) := by decide +kernel
theorem dX3_most_48 : decode cX3_most 48 = .ok (.invokevirtual 210, 3) := by decide +kernel
theorem dX3_most_51 : decode cX3_most 51 = .ok (.aload_n 0, 1) := by decide +kernel
theorem dX3_most_52 : decode cX3_most 52 = .ok (.getfield 31, 3) := by decide +kernel
theorem dX3_most_55 : decode cX3_most 55 = .ok (.getfield 213, 3) := by decide +kernel
theorem dX3_most_58 : decode cX3_most 58 = .ok (.aload_n 0, 1) := by decide +kernel
theorem dX3_most_59 : decode cX3_most 59 = .ok (.getfield 31, 3) := by decide +kernel
theorem dX3_most_62 : decode cX3_most 62 = .ok (.getfield 216, 3) := by decide +kernel
theorem dX3_most_65 : decode cX3_most 65 = .ok (.iaload, 1) := by decide +kernel
theorem dX3_most_66 : decode cX3_most 66 = .ok (.istore_n 2, 1) := by decide +kernel
theorem dX3_most_67 : decode cX3_most 67 = .ok (.aload_n 0, 1) := by decide +kernel
theorem dX3_most_68 : decode cX3_most 68 = .ok (.getfield 14, 3) := by decide +kernel
theorem dX3_most_71 : decode cX3_most 71 = .ok (.iload_n 1, 1) := by decide +kernel
theorem dX3_most_72 : decode cX3_most 72 = .ok (.iload_n 2, 1) := by decide +kernel
theorem dX3_most_73 : decode cX3_most 73 = .ok (.iconst 0, 1) := by decide +kernel
theorem dX3_most_74 : decode cX3_most 74 = .ok (.invokevirtual 218, 3) := by decide +kernel
theorem dX3_most_77 : decode cX3_most 77 = .ok (.aload_n 0, 1) := by decide +kernel
theorem dX3_most_78 : decode cX3_most 78 = .ok (.getfield 31, 3) := by decide +kernel
theorem dX3_most_81 : decode cX3_most 81 = .ok (.aload_n 0, 1) := by decide +kernel
theorem dX3_most_82 : decode cX3_most 82 = .ok (.getfield 14, 3) := by decide +kernel
theorem dX3_most_85 : decode cX3_most 85 = .ok (.getfield 81, 3) := by decide +kernel
theorem dX3_most_88 : decode cX3_most 88 = .ok (.iload_n 1, 1) := by decide +kernel
theorem dX3_most_89 : decode cX3_most 89 = .ok (.aaload, 1) := by decide +kernel
theorem dX3_most_90 : decode cX3_most 90 = .ok (.iload_n 2, 1) := by decide +kernel
theorem dX3_most_91 : decode cX3_most 91 = .ok (.invokevirtual 221, 3) := by decide +kernel
theorem dX3_most_94 : decode cX3_most 94 = .ok (.iload_n 2, 1) := by decide +kernel
theorem dX3_most_95 : decode cX3_most 95 = .ok (.ireturn, 1) := by decide +kernel
theorem dX3_worth_0 : decode cX3_worth 0 = .ok (.aload_n 0, 1) := by decide +kernel
theorem dX3_worth_1 : decode cX3_worth 1 = .ok (.getfield 24, 3) := by decide +kernel
theorem dX3_worth_4 : decode cX3_worth 4 = .ok (.getfield 126, 3) := by decide +kernel
theorem dX3_worth_7 : decode cX3_worth 7 = .ok (.ifCond .ne 6, 3) := by decide +kernel
theorem dX3_worth_10 : decode cX3_worth 10 = .ok (.bipush (-4), 2) := by decide +kernel
theorem dX3_worth_12 : decode cX3_worth 12 = .ok (.ireturn, 1) := by decide +kernel
theorem dX3_worth_13 : decode cX3_worth 13 = .ok (.aload_n 0, 1) := by decide +kernel
theorem dX3_worth_14 : decode cX3_worth 14 = .ok (.getfield 31, 3) := by decide +kernel
theorem dX3_worth_17 : decode cX3_worth 17 = .ok (.aload_n 0, 1) := by decide +kernel
theorem dX3_worth_18 : decode cX3_worth 18 = .ok (.getfield 24, 3) := by decide +kernel
theorem dX3_worth_21 : decode cX3_worth 21 = .ok (.aload_n 0, 1) := by decide +kernel
theorem dX3_worth_22 : decode cX3_worth 22 = .ok (.getfield 24, 3) := by decide +kernel
theorem dX3_worth_25 : decode cX3_worth 25 = .ok (.getfield 203, 3) := by decide +kernel
theorem dX3_worth_28 : decode cX3_worth 28 = .ok (.invokevirtual 206, 3) := by decide +kernel
theorem dX3_worth_31 : decode cX3_worth 31 = .ok (.iconst 0, 1) := by decide +kernel
theorem dX3_worth_32 : decode cX3_worth 32 = .ok (.istore_n 1, 1) := by decide +kernel
theorem dX3_worth_33 : decode cX3_worth 33 = .ok (.iconst 0, 1) := by decide +kernel
theorem dX3_worth_34 : decode cX3_worth 34 = .ok (.istore_n 2, 1) := by decide +kernel
theorem dX3_worth_35 : decode cX3_worth 35 = .ok (.iconst 1, 1) := by decide +kernel
theorem dX3_worth_36 : decode cX3_worth 36 = .ok (.istore_n 3, 1) := by decide +kernel
theorem dX3_worth_37 : decode cX3_worth 37 = .ok (.iload_n 3, 1) := by decide +kernel
theorem dX3_worth_38 : decode cX3_worth 38 = .ok (.aload_n 0, 1) := by decide +kernel
theorem dX3_worth_39 : decode cX3_worth 39 = .ok (.getfield 31, 3) := by decide +kernel
theorem dX3_worth_42 : decode cX3_worth 42 = .ok (.getfield 216, 3) := by decide +kernel
theorem dX3_worth_45 : decode cX3_worth 45 = .ok (.if_icmp .gt 60, 3) := by decide +kernel
theorem dX3_worth_48 : decode cX3_worth 48 = .ok (.aload_n 0, 1) := by decide +kernel
theorem dX3_worth_49 : decode cX3_worth 49 = .ok (.getfield 31, 3) := by decide +kernel
theorem dX3_worth_52 : decode cX3_worth 52 = .ok (.iload_n 3, 1) := by decide +kernel
theorem dX3_worth_53 : decode cX3_worth 53 = .ok (.invokevirtual 224, 3) := by decide +kernel
theorem dX3_worth_56 : decode cX3_worth 56 = .ok (.ifCond .eq 43, 3) := by decide +kernel
theorem dX3_worth_59 : decode cX3_worth 59 = .ok (.aload_n 0, 1) := by decide +kernel
theorem dX3_worth_60 : decode cX3_worth 60 = .ok (.getfield 24, 3) := by decide +kernel
theorem dX3_worth_63 : decode cX3_worth 63 = .ok (.iload_n 3, 1) := by decide +kernel
theorem dX3_worth_64 : decode cX3_worth 64 = .ok (.invokevirtual 227, 3) := by decide +kernel
theorem dX3_worth_67 : decode cX3_worth 67 = .ok (.istore 4, 2) := by decide +kernel
theorem dX3_worth_69 : decode cX3_worth 69 = .ok (.iload_n 3, 1) := by decide +kernel
theorem dX3_worth_70 : decode cX3_worth 70 = .ok (.invokestatic 140, 3) := by decide +kernel
theorem dX3_worth_73 : decode cX3_worth 73 = .ok (.istore 5, 2) := by decide +kernel
theorem dX3_worth_75 : decode cX3_worth 75 = .ok (.iload 4, 2) := by decide +kernel
theorem dX3_worth_77 : decode cX3_worth 77 = .ok (.iload_n 1, 1) := by decide +kernel
theorem dX3_worth_78 : decode cX3_worth 78 = .ok (.if_icmp .gt 15, 3) := by decide +kernel
theorem dX3_worth_81 : decode cX3_worth 81 = .ok (.iload 4, 2) := by decide +kernel
theorem dX3_worth_83 : decode cX3_worth 83 = .ok (.iload_n 1, 1) := by decide +kernel
theorem dX3_worth_84 : decode cX3_worth 84 = .ok (.if_icmp .ne 15, 3) := by decide +kernel
theorem dX3_worth_87 : decode cX3_worth 87 = .ok (.iload 5, 2) := by decide +kernel
theorem dX3_worth_89 : decode cX3_worth 89 = .ok (.iload_n 2, 1) := by decide +kernel
theorem dX3_worth_90 : decode cX3_worth 90 = .ok (.if_icmp .ge 9, 3) := by decide +kernel
theorem dX3_worth_93 : decode cX3_worth 93 = .ok (.iload 4, 2) := by decide +kernel
theorem dX3_worth_95 : decode cX3_worth 95 = .ok (.istore_n 1, 1) := by decide +kernel
theorem dX3_worth_96 : decode cX3_worth 96 = .ok (.iload 5, 2) := by decide +kernel
theorem dX3_worth_98 : decode cX3_worth 98 = .ok (.istore_n 2, 1) := by decide +kernel
theorem dX3_worth_99 : decode cX3_worth 99 = .ok (.iinc 3 1, 3) := by decide +kernel
theorem dX3_worth_102 : decode cX3_worth 102 = .ok (.goto (-65), 3) := by decide +kernel
theorem dX3_worth_105 : decode cX3_worth 105 = .ok (.aload_n 0, 1) := by decide +kernel
theorem dX3_worth_106 : decode cX3_worth 106 = .ok (.iload_n 2, 1) := by decide +kernel
theorem dX3_worth_107 : decode cX3_worth 107 = .ok (.putfield 57, 3) := by decide +kernel
theorem dX3_worth_110 : decode cX3_worth 110 = .ok (.iload_n 1, 1) := by decide +kernel
theorem dX3_worth_111 : decode cX3_worth 111 = .ok (.ireturn, 1) := by decide +kernel
theorem dX3_orders_0 : decode cX3_orders 0 = .ok (.aload_n 0, 1) := by decide +kernel
theorem dX3_orders_1 : decode cX3_orders 1 = .ok (.getfield 24, 3) := by decide +kernel
theorem dX3_orders_4 : decode cX3_orders 4 = .ok (.getfield 126, 3) := by decide +kernel
theorem dX3_orders_7 : decode cX3_orders 7 = .ok (.ifCond .ne 6, 3) := by decide +kernel
theorem dX3_orders_10 : decode cX3_orders 10 = .ok (.bipush (-4), 2) := by decide +kernel
theorem dX3_orders_12 : decode cX3_orders 12 = .ok (.ireturn, 1) := by decide +kernel
theorem dX3_orders_13 : decode cX3_orders 13 = .ok (.aload_n 0, 1) := by decide +kernel
theorem dX3_orders_14 : decode cX3_orders 14 = .ok (.getfield 31, 3) := by decide +kernel
theorem dX3_orders_17 : decode cX3_orders 17 = .ok (.aload_n 0, 1) := by decide +kernel
theorem dX3_orders_18 : decode cX3_orders 18 = .ok (.getfield 24, 3) := by decide +kernel
theorem dX3_orders_21 : decode cX3_orders 21 = .ok (.aload_n 0, 1) := by decide +kernel
theorem dX3_orders_22 : decode cX3_orders 22 = .ok (.getfield 24, 3) := by decide +kernel
theorem dX3_orders_25 : decode cX3_orders 25 = .ok (.getfield 203, 3) := by decide +kernel
theorem dX3_orders_28 : decode cX3_orders 28 = .ok (.invokevirtual 206, 3) := by decide +kernel
theorem dX3_orders_31 : decode cX3_orders 31 = .ok (.aload_n 0, 1) := by decide +kernel
theorem dX3_orders_32 : decode cX3_orders 32 = .ok (.getfield 31, 3) := by decide +kernel
theorem dX3_orders_35 : decode cX3_orders 35 = .ok (.invokevirtual 230, 3) := by decide +kernel
theorem dX3_orders_38 : decode cX3_orders 38 = .ok (.ireturn, 1) := by decide +kernel
theorem dX3_meetings_0 : decode cX3_meetings 0 = .ok (.aload_n 0, 1) := by decide +kernel
theorem dX3_meetings_1 : decode cX3_meetings 1 = .ok (.getfield 24, 3) := by decide +kernel
theorem dX3_meetings_4 : decode cX3_meetings 4 = .ok (.getfield 126, 3) := by decide +kernel
theorem dX3_meetings_7 : decode cX3_meetings 7 = .ok (.ifCond .ne 6, 3) := by decide +kernel
theorem dX3_meetings_10 : decode cX3_meetings 10 = .ok (.bipush (-4), 2) := by decide +kernel
theorem dX3_meetings_12 : decode cX3_meetings 12 = .ok (.ireturn, 1) := by decide +kernel
theorem dX3_meetings_13 : decode cX3_meetings 13 = .ok (.aload_n 0, 1) := by decide +kernel
theorem dX3_meetings_14 : decode cX3_meetings 14 = .ok (.aload_n 0, 1) := by decide +kernel
theorem dX3_meetings_15 : decode cX3_meetings 15 = .ok (.getfield 24, 3) := by decide +kernel
theorem dX3_meetings_18 : decode cX3_meetings 18 = .ok (.getfield 203, 3) := by decide +kernel
theorem dX3_meetings_21 : decode cX3_meetings 21 = .ok (.invokevirtual 233, 3) := by decide +kernel
theorem dX3_meetings_24 : decode cX3_meetings 24 = .ok (.ifCond .eq 10, 3) := by decide +kernel
theorem dX3_meetings_27 : decode cX3_meetings 27 = .ok (.aload_n 0, 1) := by decide +kernel
theorem dX3_meetings_28 : decode cX3_meetings 28 = .ok (.iconst 0, 1) := by decide +kernel
theorem dX3_meetings_29 : decode cX3_meetings 29 = .ok (.putfield 57, 3) := by decide +kernel
theorem dX3_meetings_32 : decode cX3_meetings 32 = .ok (.iconst 0, 1) := by decide +kernel
theorem dX3_meetings_33 : decode cX3_meetings 33 = .ok (.ireturn, 1) := by decide +kernel
theorem dX3_meetings_34 : decode cX3_meetings 34 = .ok (.aload_n 0, 1) := by decide +kernel
theorem dX3_meetings_35 : decode cX3_meetings 35 = .ok (.aload_n 0, 1) := by decide +kernel
theorem dX3_meetings_36 : decode cX3_meetings 36 = .ok (.getfield 24, 3) := by decide +kernel
theorem dX3_meetings_39 : decode cX3_meetings 39 = .ok (.getfield 203, 3) := by decide +kernel
theorem dX3_meetings_42 : decode cX3_meetings 42 = .ok (.aload_n 0, 1) := by decide +kernel
theorem dX3_meetings_43 : decode cX3_meetings 43 = .ok (.getfield 44, 3) := by decide +kernel
theorem dX3_meetings_46 : decode cX3_meetings 46 = .ok (.invokevirtual 237, 3) := by decide +kernel
theorem dX3_meetings_49 : decode cX3_meetings 49 = .ok (.istore_n 1, 1) := by decide +kernel
theorem dX3_meetings_50 : decode cX3_meetings 50 = .ok (.iload_n 1, 1) := by decide +kernel
theorem dX3_meetings_51 : decode cX3_meetings 51 = .ok (.bipush (-9), 2) := by decide +kernel
theorem dX3_meetings_53 : decode cX3_meetings 53 = .ok (.if_icmp .eq 10, 3) := by decide +kernel
theorem dX3_meetings_56 : decode cX3_meetings 56 = .ok (.aload_n 0, 1) := by decide +kernel
theorem dX3_meetings_57 : decode cX3_meetings 57 = .ok (.iload_n 1, 1) := by decide +kernel
theorem dX3_meetings_58 : decode cX3_meetings 58 = .ok (.putfield 57, 3) := by decide +kernel
theorem dX3_meetings_61 : decode cX3_meetings 61 = .ok (.iconst 1, 1) := by decide +kernel
theorem dX3_meetings_62 : decode cX3_meetings 62 = .ok (.ireturn, 1) := by decide +kernel
theorem dX3_meetings_63 : decode cX3_meetings 63 = .ok (.aload_n 0, 1) := by decide +kernel
theorem dX3_meetings_64 : decode cX3_meetings 64 = .ok (.invokevirtual 241, 3) := by decide +kernel
theorem dX3_meetings_67 : decode cX3_meetings 67 = .ok (.istore_n 2, 1) := by decide +kernel
theorem dX3_meetings_68 : decode cX3_meetings 68 = .ok (.iload_n 2, 1) := by decide +kernel
theorem dX3_meetings_69 : decode cX3_meetings 69 = .ok (.bipush (-9), 2) := by decide +kernel
theorem dX3_meetings_71 : decode cX3_meetings 71 = .ok (.if_icmp .ne 6, 3) := by decide +kernel
theorem dX3_meetings_74 : decode cX3_meetings 74 = .ok (.bipush (-9), 2) := by decide +kernel
theorem dX3_meetings_76 : decode cX3_meetings 76 = .ok (.ireturn, 1) := by decide +kernel
theorem dX3_meetings_77 : decode cX3_meetings 77 = .ok (.aload_n 0, 1) := by decide +kernel
theorem dX3_meetings_78 : decode cX3_meetings 78 = .ok (.iload_n 2, 1) := by decide +kernel
theorem dX3_meetings_79 : decode cX3_meetings 79 = .ok (.putfield 57, 3) := by decide +kernel
theorem dX3_meetings_82 : decode cX3_meetings 82 = .ok (.iconst 2, 1) := by decide +kernel
theorem dX3_meetings_83 : decode cX3_meetings 83 = .ok (.ireturn, 1) := by decide +kernel
theorem dX3_stone_0 : decode cX3_stone 0 = .ok (.aload_n 0, 1) := by decide +kernel
theorem dX3_stone_1 : decode cX3_stone 1 = .ok (.getfield 24, 3) := by decide +kernel
theorem dX3_stone_4 : decode cX3_stone 4 = .ok (.getfield 126, 3) := by decide +kernel
theorem dX3_stone_7 : decode cX3_stone 7 = .ok (.ifCond .ne 6, 3) := by decide +kernel
theorem dX3_stone_10 : decode cX3_stone 10 = .ok (.bipush (-4), 2) := by decide +kernel
theorem dX3_stone_12 : decode cX3_stone 12 = .ok (.ireturn, 1) := by decide +kernel
theorem dX3_stone_13 : decode cX3_stone 13 = .ok (.bipush (-9), 2) := by decide +kernel
theorem dX3_stone_15 : decode cX3_stone 15 = .ok (.istore_n 1, 1) := by decide +kernel
theorem dX3_stone_16 : decode cX3_stone 16 = .ok (.iconst (-1), 1) := by decide +kernel
theorem dX3_stone_17 : decode cX3_stone 17 = .ok (.istore_n 2, 1) := by decide +kernel
theorem dX3_stone_18 : decode cX3_stone 18 = .ok (.iconst 0, 1) := by decide +kernel
theorem dX3_stone_19 : decode cX3_stone 19 = .ok (.istore_n 3, 1) := by decide +kernel
theorem dX3_stone_20 : decode cX3_stone 20 = .ok (.iload_n 3, 1) := by decide +kernel
theorem dX3_stone_21 : decode cX3_stone 21 = .ok (.aload_n 0, 1) := by decide +kernel
theorem dX3_stone_22 : decode cX3_stone 22 = .ok (.getfield 24, 3) := by decide +kernel
theorem dX3_stone_25 : decode cX3_stone 25 = .ok (.getfield 126, 3) := by decide +kernel
theorem dX3_stone_28 : decode cX3_stone 28 = .ok (.if_icmp .ge 38, 3) := by decide +kernel
theorem dX3_stone_31 : decode cX3_stone 31 = .ok (.aload_n 0, 1) := by decide +kernel
theorem dX3_stone_32 : decode cX3_stone 32 = .ok (.getfield 24, 3) := by decide +kernel
theorem dX3_stone_35 : decode cX3_stone 35 = .ok (.iload_n 3, 1) := by decide +kernel
theorem dX3_stone_36 : decode cX3_stone 36 = .ok (.invokevirtual 244, 3) := by decide +kernel
theorem dX3_stone_39 : decode cX3_stone 39 = .ok (.ifCond .eq 21, 3) := by decide +kernel
theorem dX3_stone_42 : decode cX3_stone 42 = .ok (.aload_n 0, 1) := by decide +kernel
theorem dX3_stone_43 : decode cX3_stone 43 = .ok (.iload_n 3, 1) := by decide +kernel
theorem dX3_stone_44 : decode cX3_stone 44 = .ok (.invokevirtual 247, 3) := by decide +kernel
theorem dX3_stone_47 : decode cX3_stone 47 = .ok (.istore 4, 2) := by decide +kernel
theorem dX3_stone_49 : decode cX3_stone 49 = .ok (.iload 4, 2) := by decide +kernel
theorem dX3_stone_51 : decode cX3_stone 51 = .ok (.iload_n 2, 1) := by decide +kernel
theorem dX3_stone_52 : decode cX3_stone 52 = .ok (.if_icmp .le 8, 3) := by decide +kernel
theorem dX3_stone_55 : decode cX3_stone 55 = .ok (.iload_n 3, 1) := by decide +kernel
theorem dX3_stone_56 : decode cX3_stone 56 = .ok (.istore_n 1, 1) := by decide +kernel
theorem dX3_stone_57 : decode cX3_stone 57 = .ok (.iload 4, 2) := by decide +kernel
theorem dX3_stone_59 : decode cX3_stone 59 = .ok (.istore_n 2, 1) := by decide +kernel
theorem dX3_stone_60 : decode cX3_stone 60 = .ok (.iinc 3 1, 3) := by decide +kernel
theorem dX3_stone_63 : decode cX3_stone 63 = .ok (.goto (-43), 3) := by decide +kernel
theorem dX3_stone_66 : decode cX3_stone 66 = .ok (.iload_n 1, 1) := by decide +kernel
theorem dX3_stone_67 : decode cX3_stone 67 = .ok (.bipush (-9), 2) := by decide +kernel
theorem dX3_stone_69 : decode cX3_stone 69 = .ok (.if_icmp .ne 8, 3) := by decide +kernel
theorem dX3_stone_72 : decode cX3_stone 72 = .ok (.bipush (-9), 2) := by decide +kernel
theorem dX3_stone_74 : decode cX3_stone 74 = .ok (.goto 9, 3) := by decide +kernel
theorem dX3_stone_77 : decode cX3_stone 77 = .ok (.aload_n 0, 1) := by decide +kernel
theorem dX3_stone_78 : decode cX3_stone 78 = .ok (.iload_n 1, 1) := by decide +kernel
theorem dX3_stone_79 : decode cX3_stone 79 = .ok (.iload_n 2, 1) := by decide +kernel
theorem dX3_stone_80 : decode cX3_stone 80 = .ok (.invokevirtual 250, 3) := by decide +kernel
theorem dX3_stone_83 : decode cX3_stone 83 = .ok (.ireturn, 1) := by decide +kernel
theorem dX3_hold_0 : decode cX3_hold 0 = .ok (.aload_n 0, 1) := by decide +kernel
theorem dX3_hold_1 : decode cX3_hold 1 = .ok (.getfield 24, 3) := by decide +kernel
theorem dX3_hold_4 : decode cX3_hold 4 = .ok (.getfield 126, 3) := by decide +kernel
theorem dX3_hold_7 : decode cX3_hold 7 = .ok (.ifCond .ne 6, 3) := by decide +kernel
theorem dX3_hold_10 : decode cX3_hold 10 = .ok (.bipush (-4), 2) := by decide +kernel
theorem dX3_hold_12 : decode cX3_hold 12 = .ok (.ireturn, 1) := by decide +kernel
theorem dX3_hold_13 : decode cX3_hold 13 = .ok (.aload_n 0, 1) := by decide +kernel
theorem dX3_hold_14 : decode cX3_hold 14 = .ok (.getfield 31, 3) := by decide +kernel
theorem dX3_hold_17 : decode cX3_hold 17 = .ok (.aload_n 0, 1) := by decide +kernel
theorem dX3_hold_18 : decode cX3_hold 18 = .ok (.getfield 24, 3) := by decide +kernel
theorem dX3_hold_21 : decode cX3_hold 21 = .ok (.aload_n 0, 1) := by decide +kernel
theorem dX3_hold_22 : decode cX3_hold 22 = .ok (.getfield 24, 3) := by decide +kernel
theorem dX3_hold_25 : decode cX3_hold 25 = .ok (.getfield 203, 3) := by decide +kernel
theorem dX3_hold_28 : decode cX3_hold 28 = .ok (.invokevirtual 206, 3) := by decide +kernel
theorem dX3_hold_31 : decode cX3_hold 31 = .ok (.aload_n 0, 1) := by decide +kernel
theorem dX3_hold_32 : decode cX3_hold 32 = .ok (.getfield 31, 3) := by decide +kernel
theorem dX3_hold_35 : decode cX3_hold 35 = .ok (.invokevirtual 210, 3) := by decide +kernel
theorem dX3_hold_38 : decode cX3_hold 38 = .ok (.bipush (-9), 2) := by decide +kernel
theorem dX3_hold_40 : decode cX3_hold 40 = .ok (.istore_n 1, 1) := by decide +kernel
theorem dX3_hold_41 : decode cX3_hold 41 = .ok (.bipush 8, 2) := by decide +kernel
theorem dX3_hold_43 : decode cX3_hold 43 = .ok (.istore_n 2, 1) := by decide +kernel
theorem dX3_hold_44 : decode cX3_hold 44 = .ok (.iconst 0, 1) := by decide +kernel
theorem dX3_hold_45 : decode cX3_hold 45 = .ok (.istore_n 3, 1) := by decide +kernel
theorem dX3_hold_46 : decode cX3_hold 46 = .ok (.iload_n 3, 1) := by decide +kernel
theorem dX3_hold_47 : decode cX3_hold 47 = .ok (.aload_n 0, 1) := by decide +kernel
theorem dX3_hold_48 : decode cX3_hold 48 = .ok (.getfield 24, 3) := by decide +kernel
theorem dX3_hold_51 : decode cX3_hold 51 = .ok (.getfield 126, 3) := by decide +kernel
theorem dX3_hold_54 : decode cX3_hold 54 = .ok (.if_icmp .ge 54, 3) := by decide +kernel
theorem dX3_hold_57 : decode cX3_hold 57 = .ok (.aload_n 0, 1) := by decide +kernel
theorem dX3_hold_58 : decode cX3_hold 58 = .ok (.getfield 24, 3) := by decide +kernel
theorem dX3_hold_61 : decode cX3_hold 61 = .ok (.iload_n 3, 1) := by decide +kernel
theorem dX3_hold_62 : decode cX3_hold 62 = .ok (.invokevirtual 244, 3) := by decide +kernel
theorem dX3_hold_65 : decode cX3_hold 65 = .ok (.ifCond .eq 37, 3) := by decide +kernel
theorem dX3_hold_68 : decode cX3_hold 68 = .ok (.aload_n 0, 1) := by decide +kernel
theorem dX3_hold_69 : decode cX3_hold 69 = .ok (.getfield 31, 3) := by decide +kernel
theorem dX3_hold_72 : decode cX3_hold 72 = .ok (.getfield 213, 3) := by decide +kernel
theorem dX3_hold_75 : decode cX3_hold 75 = .ok (.aload_n 0, 1) := by decide +kernel
theorem dX3_hold_76 : decode cX3_hold 76 = .ok (.getfield 31, 3) := by decide +kernel
theorem dX3_hold_79 : decode cX3_hold 79 = .ok (.getfield 216, 3) := by decide +kernel
theorem dX3_hold_82 : decode cX3_hold 82 = .ok (.iconst 1, 1) := by decide +kernel
theorem dX3_hold_83 : decode cX3_hold 83 = .ok (.iload_n 3, 1) := by decide +kernel
theorem dX3_hold_84 : decode cX3_hold 84 = .ok (.ishl, 1) := by decide +kernel
theorem dX3_hold_85 : decode cX3_hold 85 = .ok (.iconst (-1), 1) := by decide +kernel
theorem dX3_hold_86 : decode cX3_hold 86 = .ok (.ixor, 1) := by decide +kernel
theorem dX3_hold_87 : decode cX3_hold 87 = .ok (.iand, 1) := by decide +kernel
theorem dX3_hold_88 : decode cX3_hold 88 = .ok (.iaload, 1) := by decide +kernel
theorem dX3_hold_89 : decode cX3_hold 89 = .ok (.istore 4, 2) := by decide +kernel
theorem dX3_hold_91 : decode cX3_hold 91 = .ok (.iload 4, 2) := by decide +kernel
theorem dX3_hold_93 : decode cX3_hold 93 = .ok (.iload_n 2, 1) := by decide +kernel
theorem dX3_hold_94 : decode cX3_hold 94 = .ok (.if_icmp .ge 8, 3) := by decide +kernel
theorem dX3_hold_97 : decode cX3_hold 97 = .ok (.iload_n 3, 1) := by decide +kernel
theorem dX3_hold_98 : decode cX3_hold 98 = .ok (.istore_n 1, 1) := by decide +kernel
theorem dX3_hold_99 : decode cX3_hold 99 = .ok (.iload 4, 2) := by decide +kernel
theorem dX3_hold_101 : decode cX3_hold 101 = .ok (.istore_n 2, 1) := by decide +kernel
theorem dX3_hold_102 : decode cX3_hold 102 = .ok (.iinc 3 1, 3) := by decide +kernel
theorem dX3_hold_105 : decode cX3_hold 105 = .ok (.goto (-59), 3) := by decide +kernel
theorem dX3_hold_108 : decode cX3_hold 108 = .ok (.iload_n 1, 1) := by decide +kernel
theorem dX3_hold_109 : decode cX3_hold 109 = .ok (.bipush (-9), 2) := by decide +kernel
theorem dX3_hold_111 : decode cX3_hold 111 = .ok (.if_icmp .ne 8, 3) := by decide +kernel
theorem dX3_hold_114 : decode cX3_hold 114 = .ok (.bipush (-9), 2) := by decide +kernel
theorem dX3_hold_116 : decode cX3_hold 116 = .ok (.goto 9, 3) := by decide +kernel
theorem dX3_hold_119 : decode cX3_hold 119 = .ok (.aload_n 0, 1) := by decide +kernel
theorem dX3_hold_120 : decode cX3_hold 120 = .ok (.iload_n 1, 1) := by decide +kernel
theorem dX3_hold_121 : decode cX3_hold 121 = .ok (.iload_n 2, 1) := by decide +kernel
theorem dX3_hold_122 : decode cX3_hold 122 = .ok (.invokevirtual 250, 3) := by decide +kernel
theorem dX3_hold_125 : decode cX3_hold 125 = .ok (.ireturn, 1) := by decide +kernel
theorem dX3_last_0 : decode cX3_last 0 = .ok (.aload_n 0, 1) := by decide +kernel
theorem dX3_last_1 : decode cX3_last 1 = .ok (.getfield 24, 3) := by decide +kernel
theorem dX3_last_4 : decode cX3_last 4 = .ok (.iload_n 1, 1) := by decide +kernel
theorem dX3_last_5 : decode cX3_last 5 = .ok (.invokevirtual 155, 3) := by decide +kernel
theorem dX3_last_8 : decode cX3_last 8 = .ok (.ifCond .ne 5, 3) := by decide +kernel
theorem dX3_last_11 : decode cX3_last 11 = .ok (.iconst (-1), 1) := by decide +kernel
theorem dX3_last_12 : decode cX3_last 12 = .ok (.ireturn, 1) := by decide +kernel
theorem dX3_last_13 : decode cX3_last 13 = .ok (.aload_n 0, 1) := by decide +kernel
theorem dX3_last_14 : decode cX3_last 14 = .ok (.getfield 24, 3) := by decide +kernel
theorem dX3_last_17 : decode cX3_last 17 = .ok (.getfield 126, 3) := by decide +kernel
theorem dX3_last_20 : decode cX3_last 20 = .ok (.ifCond .ne 6, 3) := by decide +kernel
theorem dX3_last_23 : decode cX3_last 23 = .ok (.bipush (-4), 2) := by decide +kernel
theorem dX3_last_25 : decode cX3_last 25 = .ok (.ireturn, 1) := by decide +kernel
theorem dX3_last_26 : decode cX3_last 26 = .ok (.iconst 0, 1) := by decide +kernel
theorem dX3_last_27 : decode cX3_last 27 = .ok (.istore_n 2, 1) := by decide +kernel
theorem dX3_last_28 : decode cX3_last 28 = .ok (.iconst 0, 1) := by decide +kernel
theorem dX3_last_29 : decode cX3_last 29 = .ok (.istore_n 3, 1) := by decide +kernel
theorem dX3_last_30 : decode cX3_last 30 = .ok (.iload_n 3, 1) := by decide +kernel
theorem dX3_last_31 : decode cX3_last 31 = .ok (.aload_n 0, 1) := by decide +kernel
theorem dX3_last_32 : decode cX3_last 32 = .ok (.getfield 24, 3) := by decide +kernel
theorem dX3_last_35 : decode cX3_last 35 = .ok (.getfield 126, 3) := by decide +kernel
theorem dX3_last_38 : decode cX3_last 38 = .ok (.if_icmp .ge 41, 3) := by decide +kernel
theorem dX3_last_41 : decode cX3_last 41 = .ok (.aload_n 0, 1) := by decide +kernel
theorem dX3_last_42 : decode cX3_last 42 = .ok (.getfield 24, 3) := by decide +kernel
theorem dX3_last_45 : decode cX3_last 45 = .ok (.iload_n 3, 1) := by decide +kernel
theorem dX3_last_46 : decode cX3_last 46 = .ok (.invokevirtual 145, 3) := by decide +kernel
theorem dX3_last_49 : decode cX3_last 49 = .ok (.aload_n 0, 1) := by decide +kernel
theorem dX3_last_50 : decode cX3_last 50 = .ok (.getfield 24, 3) := by decide +kernel
theorem dX3_last_53 : decode cX3_last 53 = .ok (.invokevirtual 151, 3) := by decide +kernel
theorem dX3_last_56 : decode cX3_last 56 = .ok (.iand, 1) := by decide +kernel
theorem dX3_last_57 : decode cX3_last 57 = .ok (.iconst 1, 1) := by decide +kernel
theorem dX3_last_58 : decode cX3_last 58 = .ok (.iload_n 3, 1) := by decide +kernel
theorem dX3_last_59 : decode cX3_last 59 = .ok (.ishl, 1) := by decide +kernel
theorem dX3_last_60 : decode cX3_last 60 = .ok (.iconst (-1), 1) := by decide +kernel
theorem dX3_last_61 : decode cX3_last 61 = .ok (.ixor, 1) := by decide +kernel
theorem dX3_last_62 : decode cX3_last 62 = .ok (.iand, 1) := by decide +kernel
theorem dX3_last_63 : decode cX3_last 63 = .ok (.iload_n 1, 1) := by decide +kernel
theorem dX3_last_64 : decode cX3_last 64 = .ok (.if_icmp .ne 9, 3) := by decide +kernel
theorem dX3_last_67 : decode cX3_last 67 = .ok (.iload_n 2, 1) := by decide +kernel
theorem dX3_last_68 : decode cX3_last 68 = .ok (.iconst 1, 1) := by decide +kernel
theorem dX3_last_69 : decode cX3_last 69 = .ok (.iload_n 3, 1) := by decide +kernel
theorem dX3_last_70 : decode cX3_last 70 = .ok (.ishl, 1) := by decide +kernel
theorem dX3_last_71 : decode cX3_last 71 = .ok (.ior, 1) := by decide +kernel
theorem dX3_last_72 : decode cX3_last 72 = .ok (.istore_n 2, 1) := by decide +kernel
theorem dX3_last_73 : decode cX3_last 73 = .ok (.iinc 3 1, 3) := by decide +kernel
theorem dX3_last_76 : decode cX3_last 76 = .ok (.goto (-46), 3) := by decide +kernel
theorem dX3_last_79 : decode cX3_last 79 = .ok (.iload_n 2, 1) := by decide +kernel
theorem dX3_last_80 : decode cX3_last 80 = .ok (.ireturn, 1) := by decide +kernel
theorem dX3_kinds_0 : decode cX3_kinds 0 = .ok (.aload_n 0, 1) := by decide +kernel
theorem dX3_kinds_1 : decode cX3_kinds 1 = .ok (.iload_n 1, 1) := by decide +kernel
theorem dX3_kinds_2 : decode cX3_kinds 2 = .ok (.iload_n 2, 1) := by decide +kernel
theorem dX3_kinds_3 : decode cX3_kinds 3 = .ok (.invokevirtual 253, 3) := by decide +kernel
theorem dX3_kinds_6 : decode cX3_kinds 6 = .ok (.istore_n 3, 1) := by decide +kernel
theorem dX3_kinds_7 : decode cX3_kinds 7 = .ok (.iload_n 3, 1) := by decide +kernel
theorem dX3_kinds_8 : decode cX3_kinds 8 = .ok (.ifCond .eq 7, 3) := by decide +kernel
theorem dX3_kinds_11 : decode cX3_kinds 11 = .ok (.iload_n 3, 1) := by decide +kernel
theorem dX3_kinds_12 : decode cX3_kinds 12 = .ok (.goto 9, 3) := by decide +kernel
theorem dX3_kinds_15 : decode cX3_kinds 15 = .ok (.aload_n 0, 1) := by decide +kernel
theorem dX3_kinds_16 : decode cX3_kinds 16 = .ok (.iload_n 1, 1) := by decide +kernel
theorem dX3_kinds_17 : decode cX3_kinds 17 = .ok (.iload_n 2, 1) := by decide +kernel
theorem dX3_kinds_18 : decode cX3_kinds 18 = .ok (.invokevirtual 256, 3) := by decide +kernel
theorem dX3_kinds_21 : decode cX3_kinds 21 = .ok (.ireturn, 1) := by decide +kernel
theorem dX3_test_0 : decode cX3_test 0 = .ok (.aload_n 0, 1) := by decide +kernel
theorem dX3_test_1 : decode cX3_test 1 = .ok (.iload_n 1, 1) := by decide +kernel
theorem dX3_test_2 : decode cX3_test 2 = .ok (.iload_n 2, 1) := by decide +kernel
theorem dX3_test_3 : decode cX3_test 3 = .ok (.invokevirtual 253, 3) := by decide +kernel
theorem dX3_test_6 : decode cX3_test 6 = .ok (.istore_n 3, 1) := by decide +kernel
theorem dX3_test_7 : decode cX3_test 7 = .ok (.iload_n 3, 1) := by decide +kernel
theorem dX3_test_8 : decode cX3_test 8 = .ok (.ifCond .eq 5, 3) := by decide +kernel
theorem dX3_test_11 : decode cX3_test 11 = .ok (.iload_n 3, 1) := by decide +kernel
