theorem cw_X2 : ∀ w ∈ u_ws RX2 TX2 3, w ∈ gn_T := by decide +kernel
theorem cw_X3 : ∀ w ∈ u_ws RX3 TX3 13, w ∈ gn_T := by decide +kernel
theorem cw_X4 : ∀ w ∈ u_ws RX4 TX4 24, w ∈ gn_T := by decide +kernel
theorem cw_X0 : ∀ w ∈ u_ws RX0 TX0 11, w ∈ gn_T := by decide +kernel
theorem cw_X1 : ∀ w ∈ u_ws RX1 TX1 8, w ∈ gn_T := by decide +kernel
theorem gk_i_0 : Int32.ofInt (0) = (0 : Int32) := by decide +kernel
theorem fl_X2_14 : Cond.fieldLink RX2 14 RX2 (TX2 1).2.1 (TX2 1).2.2.1 ∈ gn_T := gn_t 132 (by decide +kernel) (by decide +kernel)
theorem q_1_1 : gn_Fd 1 2 1 (.inl 3) RX2 TX2 3 tyX2 := ⟨rfl, cw_X2, tyX2_ok, nmX2, ⟨_, rfl, rfl⟩, by decide, rfl⟩
theorem s_3 : gn_S[3]? = some (.inl (0, 6)) := rfl
theorem gk_i_1 : Int32.ofInt (1) = (1 : Int32) := by decide +kernel
theorem my_X2_numbers : gn_My yX2_numbers cX2_numbers 2 (some .boolean) 1 := ⟨gn_t 282 (by decide +kernel) (by decide +kernel), gn_t 103 (by decide +kernel) (by decide +kernel), by decide +kernel, by decide +kernel, by decide +kernel⟩
theorem mv_X2_numbers : gn_Mv yX2_numbers := ⟨gn_t 281 (by decide +kernel) (by decide +kernel), gn_t 1 (by decide +kernel) (by decide +kernel)⟩
theorem pl_X2 : plainName RX2 = true := by decide +kernel
theorem q_4_1 : gn_Fd 4 2 1 (.inl 6) RX2 TX2 3 tyX2 := ⟨rfl, cw_X2, tyX2_ok, nmX2, ⟨_, rfl, rfl⟩, by decide, rfl⟩
theorem s_6 : gn_S[6]? = some (.inl (0, 4)) := rfl
theorem fl_X3_53 : Cond.fieldLink RX3 53 RX3 (TX3 9).2.1 (TX3 9).2.2.1 ∈ gn_T := gn_t 240 (by decide +kernel) (by decide +kernel)
theorem q_0_9 : gn_Fd 0 3 9 (.inr false) RX3 TX3 13 tyX3 := ⟨rfl, cw_X3, tyX3_ok, nmX3, ⟨_, rfl, rfl⟩, by decide, rfl⟩
theorem fl_X3_50 : Cond.fieldLink RX3 50 RX3 (TX3 8).2.1 (TX3 8).2.2.1 ∈ gn_T := gn_t 239 (by decide +kernel) (by decide +kernel)
theorem q_0_8 : gn_Fd 0 3 8 (.inl 26) RX3 TX3 13 tyX3 := ⟨rfl, cw_X3, tyX3_ok, nmX3, ⟨_, rfl, rfl⟩, by decide, rfl⟩
theorem s_26 : gn_S[26]? = some (.inl (0, 6)) := rfl
theorem gk_b_m3 : (Int8.ofInt (-3)).toInt32 = (-3 : Int32) := by decide +kernel
theorem my_X3_found : gn_My yX3_found cX3_found 2 (some .int) 1 := ⟨gn_t 286 (by decide +kernel) (by decide +kernel), gn_t 102 (by decide +kernel) (by decide +kernel), by decide +kernel, by decide +kernel, by decide +kernel⟩
theorem mv_X3_found : gn_Mv yX3_found := ⟨gn_t 285 (by decide +kernel) (by decide +kernel), gn_t 2 (by decide +kernel) (by decide +kernel)⟩
theorem pl_X3 : plainName RX3 = true := by decide +kernel
theorem my_J7_fill_53178 : gn_My yJ7_fill_53178 cJ7_fill_53178 4 none 2 := ⟨gn_t 129 (by decide +kernel) (by decide +kernel), gn_t 104 (by decide +kernel) (by decide +kernel), by decide +kernel, by decide +kernel, by decide +kernel⟩
theorem ms_J7_fill_53178 : Cond.static yJ7_fill_53178 ∈ gn_T := gn_t 128 (by decide +kernel) (by decide +kernel)
theorem pl_J7 : plainName RJ7 = true := by decide +kernel
theorem fl_X2_9 : Cond.fieldLink RX2 9 RX2 (TX2 0).2.1 (TX2 0).2.2.1 ∈ gn_T := gn_t 130 (by decide +kernel) (by decide +kernel)
theorem q_1_0 : gn_Fd 1 2 0 (.inl 2) RX2 TX2 3 tyX2 := ⟨rfl, cw_X2, tyX2_ok, nmX2, ⟨_, rfl, rfl⟩, by decide, rfl⟩
theorem ra_2 : gn_S[2]? = some (.inr (.inl [10, 11, 12, 13, 14, 15])) ∧ ([10, 11, 12, 13, 14, 15] : List Nat).length = 6 ∧ (∀ j, j < 6 → ([10, 11, 12, 13, 14, 15] : List Nat)[j]? = some (10 + j)) ∧ ∀ j, j < 6 → gn_S[10 + j]? = some (.inl (0, 40)) := ⟨rfl, rfl, fun j hj => by rcases (show j = 0 ∨ j = 1 ∨ j = 2 ∨ j = 3 ∨ j = 4 ∨ j = 5 by omega) with rfl | rfl | rfl | rfl | rfl | rfl <;> rfl, fun j hj => by rcases (show j = 0 ∨ j = 1 ∨ j = 2 ∨ j = 3 ∨ j = 4 ∨ j = 5 by omega) with rfl | rfl | rfl | rfl | rfl | rfl <;> rfl⟩
theorem ml_X2_22 : Cond.methodLink RX2 22 yJ7_fill_53178 ∈ gn_T := gn_t 127 (by decide +kernel) (by decide +kernel)
theorem my_X2_spread : gn_My yX2_spread cX2_spread 4 none 3 := ⟨gn_t 290 (by decide +kernel) (by decide +kernel), gn_t 103 (by decide +kernel) (by decide +kernel), by decide +kernel, by decide +kernel, by decide +kernel⟩
theorem mv_X2_spread : gn_Mv yX2_spread := ⟨gn_t 289 (by decide +kernel) (by decide +kernel), gn_t 3 (by decide +kernel) (by decide +kernel)⟩
theorem q_4_0 : gn_Fd 4 2 0 (.inl 5) RX2 TX2 3 tyX2 := ⟨rfl, cw_X2, tyX2_ok, nmX2, ⟨_, rfl, rfl⟩, by decide, rfl⟩
theorem ra_5 : gn_S[5]? = some (.inr (.inl [16, 17, 18, 19])) ∧ ([16, 17, 18, 19] : List Nat).length = 4 ∧ (∀ j, j < 4 → ([16, 17, 18, 19] : List Nat)[j]? = some (16 + j)) ∧ ∀ j, j < 4 → gn_S[16 + j]? = some (.inl (0, 60)) := ⟨rfl, rfl, fun j hj => by rcases (show j = 0 ∨ j = 1 ∨ j = 2 ∨ j = 3 by omega) with rfl | rfl | rfl | rfl <;> rfl, fun j hj => by rcases (show j = 0 ∨ j = 1 ∨ j = 2 ∨ j = 3 by omega) with rfl | rfl | rfl | rfl <;> rfl⟩
theorem ml_X3_95 : Cond.methodLinkNest RX3 95 yX2_numbers "GateNames" ∈ gn_N := gn_nn 279 (by decide +kernel) (by decide +kernel)
theorem ob_1 : gn_Ob 1 RX2 := ⟨2, _, _, _, rfl, rfl⟩
theorem gk_i_m1 : Int32.ofInt (-1) = (-1 : Int32) := by decide +kernel
theorem fl_X3_302 : Cond.fieldLinkNest RX3 302 RX2 (TX2 2).2.1 (TX2 2).2.2.1 "GateNames" ∈ gn_N := gn_nn 135 (by decide +kernel) (by decide +kernel)
theorem q_1_2 : gn_Fd 1 2 2 (.inr false) RX2 TX2 3 tyX2 := ⟨rfl, cw_X2, tyX2_ok, nmX2, ⟨_, rfl, rfl⟩, by decide, rfl⟩
theorem gk_i_5 : Int32.ofInt (5) = (5 : Int32) := by decide +kernel
theorem ml_X3_99 : Cond.methodLink RX3 99 yX3_found ∈ gn_T := gn_t 283 (by decide +kernel) (by decide +kernel)
theorem ob_0 : gn_Ob 0 RX3 := ⟨3, _, _, _, rfl, rfl⟩
theorem ml_X3_218 : Cond.methodLinkNest RX3 218 yX2_spread "GateNames" ∈ gn_N := gn_nn 287 (by decide +kernel) (by decide +kernel)
theorem my_X3_make : gn_My yX3_make cX3_make 5 (some .int) 4 := ⟨gn_t 278 (by decide +kernel) (by decide +kernel), gn_t 102 (by decide +kernel) (by decide +kernel), by decide +kernel, by decide +kernel, by decide +kernel⟩
theorem mv_X3_make : gn_Mv yX3_make := ⟨gn_t 277 (by decide +kernel) (by decide +kernel), gn_t 0 (by decide +kernel) (by decide +kernel)⟩
theorem ob_4 : gn_Ob 4 RX2 := ⟨2, _, _, _, rfl, rfl⟩
theorem q_4_2 : gn_Fd 4 2 2 (.inr false) RX2 TX2 3 tyX2 := ⟨rfl, cw_X2, tyX2_ok, nmX2, ⟨_, rfl, rfl⟩, by decide, rfl⟩
theorem fl_X3_14 : Cond.fieldLink RX3 14 RX3 (TX3 0).2.1 (TX3 0).2.2.1 ∈ gn_T := gn_t 231 (by decide +kernel) (by decide +kernel)
theorem q_0_0 : gn_Fd 0 3 0 (.inl 1) RX3 TX3 13 tyX3 := ⟨rfl, cw_X3, tyX3_ok, nmX3, ⟨_, rfl, rfl⟩, by decide, rfl⟩
theorem ml_X3_73 : Cond.methodLink RX3 73 yX3_make ∈ gn_T := gn_t 275 (by decide +kernel) (by decide +kernel)
theorem my_X3_row : gn_My yX3_row cX3_row 3 (some .int) 2 := ⟨gn_t 274 (by decide +kernel) (by decide +kernel), gn_t 102 (by decide +kernel) (by decide +kernel), by decide +kernel, by decide +kernel, by decide +kernel⟩
theorem mv_X3_row : gn_Mv yX3_row := ⟨gn_t 272 (by decide +kernel) (by decide +kernel), gn_t 273 (by decide +kernel) (by decide +kernel)⟩
theorem my_X4_in : gn_My yX4_in cX4_in 3 (some .boolean) 3 := ⟨gn_t 850 (by decide +kernel) (by decide +kernel), gn_t 107 (by decide +kernel) (by decide +kernel), by decide +kernel, by decide +kernel, by decide +kernel⟩
theorem ms_X4_in : Cond.static yX4_in ∈ gn_T := gn_t 849 (by decide +kernel) (by decide +kernel)
theorem pl_X4 : plainName RX4 = true := by decide +kernel
theorem ml_X4_77 : Cond.methodLink RX4 77 yX4_in ∈ gn_T := gn_t 848 (by decide +kernel) (by decide +kernel)
theorem my_X4_isRow : gn_My yX4_isRow cX4_isRow 1 (some .boolean) 1 := ⟨gn_t 847 (by decide +kernel) (by decide +kernel), gn_t 107 (by decide +kernel) (by decide +kernel), by decide +kernel, by decide +kernel, by decide +kernel⟩
theorem ms_X4_isRow : Cond.static yX4_isRow ∈ gn_T := gn_t 846 (by decide +kernel) (by decide +kernel)
theorem fl_X4_67 : Cond.fieldLink RX4 67 RX4 (TX4 0).2.1 (TX4 0).2.2.1 ∈ gn_T := gn_t 766 (by decide +kernel) (by decide +kernel)
theorem q_38_0 : gn_Fd 38 4 0 (.inr false) RX4 TX4 24 tyX4 := ⟨rfl, cw_X4, tyX4_ok, nmX4, ⟨_, rfl, rfl⟩, by decide, rfl⟩
theorem fl_X4_7 : Cond.fieldLink RX4 7 RX4 (TX4 1).2.1 (TX4 1).2.2.1 ∈ gn_T := gn_t 767 (by decide +kernel) (by decide +kernel)
theorem q_38_1 : gn_Fd 38 4 1 (.inl 39) RX4 TX4 24 tyX4 := ⟨rfl, cw_X4, tyX4_ok, nmX4, ⟨_, rfl, rfl⟩, by decide, rfl⟩
theorem s_39 : gn_S[39]? = some (.inl (0, 6)) := rfl
theorem my_X4_find : gn_My yX4_find cX4_find 2 (some .int) 1 := ⟨gn_t 854 (by decide +kernel) (by decide +kernel), gn_t 107 (by decide +kernel) (by decide +kernel), by decide +kernel, by decide +kernel, by decide +kernel⟩
theorem mv_X4_find : gn_Mv yX4_find := ⟨gn_t 853 (by decide +kernel) (by decide +kernel), gn_t 63 (by decide +kernel) (by decide +kernel)⟩
theorem ml_X4_81 : Cond.methodLink RX4 81 yX4_isRow ∈ gn_T := gn_t 845 (by decide +kernel) (by decide +kernel)
theorem gk_b_40 : (Int8.ofInt (40)).toInt32 = (40 : Int32) := by decide +kernel
theorem ml_X4_85 : Cond.methodLink RX4 85 yX4_find ∈ gn_T := gn_t 851 (by decide +kernel) (by decide +kernel)
theorem ob_38 : gn_Ob 38 RX4 := ⟨4, _, _, _, rfl, rfl⟩
theorem fl_X4_17 : Cond.fieldLink RX4 17 RX4 (TX4 5).2.1 (TX4 5).2.2.1 ∈ gn_T := gn_t 771 (by decide +kernel) (by decide +kernel)
theorem q_38_5 : gn_Fd 38 4 5 (.inl 40) RX4 TX4 24 tyX4 := ⟨rfl, cw_X4, tyX4_ok, nmX4, ⟨_, rfl, rfl⟩, by decide, rfl⟩
theorem s_40 : gn_S[40]? = some (.inl (0, 6)) := rfl
theorem fl_X4_20 : Cond.fieldLink RX4 20 RX4 (TX4 6).2.1 (TX4 6).2.2.1 ∈ gn_T := gn_t 772 (by decide +kernel) (by decide +kernel)
theorem q_38_6 : gn_Fd 38 4 6 (.inl 41) RX4 TX4 24 tyX4 := ⟨rfl, cw_X4, tyX4_ok, nmX4, ⟨_, rfl, rfl⟩, by decide, rfl⟩
theorem s_41 : gn_S[41]? = some (.inl (0, 240)) := rfl
theorem my_X4_row : gn_My yX4_row cX4_row 4 (some .int) 2 := ⟨gn_t 844 (by decide +kernel) (by decide +kernel), gn_t 107 (by decide +kernel) (by decide +kernel), by decide +kernel, by decide +kernel, by decide +kernel⟩
theorem mv_X4_row : gn_Mv yX4_row := ⟨gn_t 842 (by decide +kernel) (by decide +kernel), gn_t 843 (by decide +kernel) (by decide +kernel)⟩
theorem my_X2_missing : gn_My yX2_missing cX2_missing 2 (some .boolean) 1 := ⟨gn_t 306 (by decide +kernel) (by decide +kernel), gn_t 103 (by decide +kernel) (by decide +kernel), by decide +kernel, by decide +kernel, by decide +kernel⟩
theorem mv_X2_missing : gn_Mv yX2_missing := ⟨gn_t 305 (by decide +kernel) (by decide +kernel), gn_t 6 (by decide +kernel) (by decide +kernel)⟩
theorem ml_X3_102 : Cond.methodLinkNest RX3 102 yX2_missing "GateNames" ∈ gn_N := gn_nn 303 (by decide +kernel) (by decide +kernel)
theorem my_X3_refusalOfStrip : gn_My yX3_refusalOfStrip cX3_refusalOfStrip 3 (some .int) 2 := ⟨gn_t 302 (by decide +kernel) (by decide +kernel), gn_t 102 (by decide +kernel) (by decide +kernel), by decide +kernel, by decide +kernel, by decide +kernel⟩
theorem mv_X3_refusalOfStrip : gn_Mv yX3_refusalOfStrip := ⟨gn_t 301 (by decide +kernel) (by decide +kernel), gn_t 5 (by decide +kernel) (by decide +kernel)⟩
theorem my_X2_reaches : gn_My yX2_reaches cX2_reaches 4 (some .boolean) 3 := ⟨gn_t 310 (by decide +kernel) (by decide +kernel), gn_t 103 (by decide +kernel) (by decide +kernel), by decide +kernel, by decide +kernel, by decide +kernel⟩
theorem mv_X2_reaches : gn_Mv yX2_reaches := ⟨gn_t 309 (by decide +kernel) (by decide +kernel), gn_t 7 (by decide +kernel) (by decide +kernel)⟩
theorem ml_X3_88 : Cond.methodLink RX3 88 yX3_refusalOfStrip ∈ gn_T := gn_t 299 (by decide +kernel) (by decide +kernel)
theorem ml_X3_105 : Cond.methodLinkNest RX3 105 yX2_reaches "GateNames" ∈ gn_N := gn_nn 307 (by decide +kernel) (by decide +kernel)
theorem gk_i_2 : Int32.ofInt (2) = (2 : Int32) := by decide +kernel
theorem my_X3_refusalOfPlace : gn_My yX3_refusalOfPlace cX3_refusalOfPlace 5 (some .int) 3 := ⟨gn_t 298 (by decide +kernel) (by decide +kernel), gn_t 102 (by decide +kernel) (by decide +kernel), by decide +kernel, by decide +kernel, by decide +kernel⟩
theorem mv_X3_refusalOfPlace : gn_Mv yX3_refusalOfPlace := ⟨gn_t 297 (by decide +kernel) (by decide +kernel), gn_t 4 (by decide +kernel) (by decide +kernel)⟩
theorem fl_X3_57 : Cond.fieldLink RX3 57 RX3 (TX3 10).2.1 (TX3 10).2.2.1 ∈ gn_T := gn_t 241 (by decide +kernel) (by decide +kernel)
theorem q_0_10 : gn_Fd 0 3 10 (.inr false) RX3 TX3 13 tyX3 := ⟨rfl, cw_X3, tyX3_ok, nmX3, ⟨_, rfl, rfl⟩, by decide, rfl⟩
theorem my_X3_toldByAsked : gn_My yX3_toldByAsked cX3_toldByAsked 2 (some .int) 1 := ⟨gn_t 314 (by decide +kernel) (by decide +kernel), gn_t 102 (by decide +kernel) (by decide +kernel), by decide +kernel, by decide +kernel, by decide +kernel⟩
theorem mv_X3_toldByAsked : gn_Mv yX3_toldByAsked := ⟨gn_t 313 (by decide +kernel) (by decide +kernel), gn_t 8 (by decide +kernel) (by decide +kernel)⟩
theorem ml_X3_77 : Cond.methodLink RX3 77 yX3_refusalOfPlace ∈ gn_T := gn_t 295 (by decide +kernel) (by decide +kernel)
theorem fl_X3_81 : Cond.fieldLinkNest RX3 81 RX2 (TX2 0).2.1 (TX2 0).2.2.1 "GateNames" ∈ gn_N := gn_nn 131 (by decide +kernel) (by decide +kernel)
theorem ml_X3_84 : Cond.methodLink RX3 84 yX3_toldByAsked ∈ gn_T := gn_t 311 (by decide +kernel) (by decide +kernel)
theorem my_X3_lay : gn_My yX3_lay cX3_lay 6 (some .int) 3 := ⟨gn_t 294 (by decide +kernel) (by decide +kernel), gn_t 102 (by decide +kernel) (by decide +kernel), by decide +kernel, by decide +kernel, by decide +kernel⟩
theorem mv_X3_lay : gn_Mv yX3_lay := ⟨gn_t 292 (by decide +kernel) (by decide +kernel), gn_t 293 (by decide +kernel) (by decide +kernel)⟩
theorem fl_X4_71 : Cond.fieldLink RX4 71 RX4 (TX4 2).2.1 (TX4 2).2.2.1 ∈ gn_T := gn_t 768 (by decide +kernel) (by decide +kernel)
theorem q_38_2 : gn_Fd 38 4 2 (.inr false) RX4 TX4 24 tyX4 := ⟨rfl, cw_X4, tyX4_ok, nmX4, ⟨_, rfl, rfl⟩, by decide, rfl⟩
theorem my_X4_told : gn_My yX4_told cX4_told 2 (some .int) 1 := ⟨gn_t 862 (by decide +kernel) (by decide +kernel), gn_t 107 (by decide +kernel) (by decide +kernel), by decide +kernel, by decide +kernel, by decide +kernel⟩
theorem mv_X4_told : gn_Mv yX4_told := ⟨gn_t 861 (by decide +kernel) (by decide +kernel), gn_t 64 (by decide +kernel) (by decide +kernel)⟩
theorem ml_X4_89 : Cond.methodLink RX4 89 yX4_told ∈ gn_T := gn_t 859 (by decide +kernel) (by decide +kernel)
theorem my_X4_lay : gn_My yX4_lay cX4_lay 5 (some .int) 3 := ⟨gn_t 858 (by decide +kernel) (by decide +kernel), gn_t 107 (by decide +kernel) (by decide +kernel), by decide +kernel, by decide +kernel, by decide +kernel⟩
theorem mv_X4_lay : gn_Mv yX4_lay := ⟨gn_t 856 (by decide +kernel) (by decide +kernel), gn_t 857 (by decide +kernel) (by decide +kernel)⟩
theorem my_X3_at : gn_My yX3_at cX3_at 4 (some .int) 2 := ⟨gn_t 318 (by decide +kernel) (by decide +kernel), gn_t 102 (by decide +kernel) (by decide +kernel), by decide +kernel, by decide +kernel, by decide +kernel⟩
theorem mv_X3_at : gn_Mv yX3_at := ⟨gn_t 316 (by decide +kernel) (by decide +kernel), gn_t 317 (by decide +kernel) (by decide +kernel)⟩
theorem my_X4_at : gn_My yX4_at cX4_at 3 (some .int) 2 := ⟨gn_t 866 (by decide +kernel) (by decide +kernel), gn_t 107 (by decide +kernel) (by decide +kernel), by decide +kernel, by decide +kernel, by decide +kernel⟩
theorem mv_X4_at : gn_Mv yX4_at := ⟨gn_t 864 (by decide +kernel) (by decide +kernel), gn_t 865 (by decide +kernel) (by decide +kernel)⟩
theorem fl_X3_92 : Cond.fieldLinkNest RX3 92 RX2 (TX2 1).2.1 (TX2 1).2.2.1 "GateNames" ∈ gn_N := gn_nn 133 (by decide +kernel) (by decide +kernel)
theorem my_X3_tear : gn_My yX3_tear cX3_tear 3 (some .int) 1 := ⟨gn_t 322 (by decide +kernel) (by decide +kernel), gn_t 102 (by decide +kernel) (by decide +kernel), by decide +kernel, by decide +kernel, by decide +kernel⟩
theorem mv_X3_tear : gn_Mv yX3_tear := ⟨gn_t 320 (by decide +kernel) (by decide +kernel), gn_t 321 (by decide +kernel) (by decide +kernel)⟩
theorem my_X4_tear : gn_My yX4_tear cX4_tear 2 (some .int) 1 := ⟨gn_t 870 (by decide +kernel) (by decide +kernel), gn_t 107 (by decide +kernel) (by decide +kernel), by decide +kernel, by decide +kernel, by decide +kernel⟩
theorem mv_X4_tear : gn_Mv yX4_tear := ⟨gn_t 868 (by decide +kernel) (by decide +kernel), gn_t 869 (by decide +kernel) (by decide +kernel)⟩
theorem ml_X3_109 : Cond.methodLink RX3 109 arraycopyName ∈ gn_T := gn_t 327 (by decide +kernel) (by decide +kernel)
theorem w_copy : Cond.native arraycopyName ∈ gn_T ∧ Cond.static arraycopyName ∈ gn_T ∧ Cond.initialized "java/lang/System" ∈ gn_T := ⟨gn_t 329 (by decide +kernel) (by decide +kernel), gn_t 328 (by decide +kernel) (by decide +kernel), gn_t 108 (by decide +kernel) (by decide +kernel)⟩
theorem my_X3_copy : gn_My yX3_copy cX3_copy 6 (some .int) 5 := ⟨gn_t 326 (by decide +kernel) (by decide +kernel), gn_t 102 (by decide +kernel) (by decide +kernel), by decide +kernel, by decide +kernel, by decide +kernel⟩
theorem mv_X3_copy : gn_Mv yX3_copy := ⟨gn_t 324 (by decide +kernel) (by decide +kernel), gn_t 325 (by decide +kernel) (by decide +kernel)⟩
theorem fl_X4_30 : Cond.fieldLink RX4 30 RX4 (TX4 9).2.1 (TX4 9).2.2.1 ∈ gn_T := gn_t 775 (by decide +kernel) (by decide +kernel)
theorem q_38_9 : gn_Fd 38 4 9 (.inl 44) RX4 TX4 24 tyX4 := ⟨rfl, cw_X4, tyX4_ok, nmX4, ⟨_, rfl, rfl⟩, by decide, rfl⟩
theorem s_44 : gn_S[44]? = some (.inl (0, 40)) := rfl
theorem my_X4_copy : gn_My yX4_copy cX4_copy 7 (some .int) 5 := ⟨gn_t 874 (by decide +kernel) (by decide +kernel), gn_t 107 (by decide +kernel) (by decide +kernel), by decide +kernel, by decide +kernel, by decide +kernel⟩
theorem mv_X4_copy : gn_Mv yX4_copy := ⟨gn_t 872 (by decide +kernel) (by decide +kernel), gn_t 873 (by decide +kernel) (by decide +kernel)⟩
theorem gk_l_0 : Int64.ofNat ((0 : Fin 2) : Nat) = (0 : Int64) := by decide +kernel
theorem my_X2_total : gn_My yX2_total cX2_total 5 (some .long) 1 := ⟨gn_t 337 (by decide +kernel) (by decide +kernel), gn_t 103 (by decide +kernel) (by decide +kernel), by decide +kernel, by decide +kernel, by decide +kernel⟩
theorem mv_X2_total : gn_Mv yX2_total := ⟨gn_t 336 (by decide +kernel) (by decide +kernel), gn_t 9 (by decide +kernel) (by decide +kernel)⟩
theorem ml_X3_115 : Cond.methodLinkNest RX3 115 yX2_total "GateNames" ∈ gn_N := gn_nn 334 (by decide +kernel) (by decide +kernel)
theorem gk_i_4 : Int32.ofInt (4) = (4 : Int32) := by decide +kernel
theorem my_X3_mean : gn_My yX3_mean cX3_mean 4 (some .int) 1 := ⟨gn_t 333 (by decide +kernel) (by decide +kernel), gn_t 102 (by decide +kernel) (by decide +kernel), by decide +kernel, by decide +kernel, by decide +kernel⟩
theorem mv_X3_mean : gn_Mv yX3_mean := ⟨gn_t 331 (by decide +kernel) (by decide +kernel), gn_t 332 (by decide +kernel) (by decide +kernel)⟩
theorem my_X4_mean : gn_My yX4_mean cX4_mean 5 (some .int) 1 := ⟨gn_t 878 (by decide +kernel) (by decide +kernel), gn_t 107 (by decide +kernel) (by decide +kernel), by decide +kernel, by decide +kernel, by decide +kernel⟩
theorem mv_X4_mean : gn_Mv yX4_mean := ⟨gn_t 876 (by decide +kernel) (by decide +kernel), gn_t 877 (by decide +kernel) (by decide +kernel)⟩
theorem fl_X3_18 : Cond.fieldLink RX3 18 RX3 (TX3 1).2.1 (TX3 1).2.2.1 ∈ gn_T := gn_t 232 (by decide +kernel) (by decide +kernel)
theorem q_0_1 : gn_Fd 0 3 1 (.inl 4) RX3 TX3 13 tyX3 := ⟨rfl, cw_X3, tyX3_ok, nmX3, ⟨_, rfl, rfl⟩, by decide, rfl⟩
theorem gk_b_32 : (Int8.ofInt (32)).toInt32 = (32 : Int32) := by decide +kernel
theorem my_X3_text : gn_My yX3_text cX3_text 3 (some .int) 2 := ⟨gn_t 341 (by decide +kernel) (by decide +kernel), gn_t 102 (by decide +kernel) (by decide +kernel), by decide +kernel, by decide +kernel, by decide +kernel⟩
theorem mv_X3_text : gn_Mv yX3_text := ⟨gn_t 339 (by decide +kernel) (by decide +kernel), gn_t 340 (by decide +kernel) (by decide +kernel)⟩
theorem gk_i_3 : Int32.ofInt (3) = (3 : Int32) := by decide +kernel
theorem my_X4_isText : gn_My yX4_isText cX4_isText 1 (some .boolean) 1 := ⟨gn_t 885 (by decide +kernel) (by decide +kernel), gn_t 107 (by decide +kernel) (by decide +kernel), by decide +kernel, by decide +kernel, by decide +kernel⟩
theorem ms_X4_isText : Cond.static yX4_isText ∈ gn_T := gn_t 884 (by decide +kernel) (by decide +kernel)
theorem ml_X4_92 : Cond.methodLink RX4 92 yX4_isText ∈ gn_T := gn_t 883 (by decide +kernel) (by decide +kernel)
theorem gk_b_60 : (Int8.ofInt (60)).toInt32 = (60 : Int32) := by decide +kernel
theorem fl_X4_23 : Cond.fieldLink RX4 23 RX4 (TX4 7).2.1 (TX4 7).2.2.1 ∈ gn_T := gn_t 773 (by decide +kernel) (by decide +kernel)
theorem q_38_7 : gn_Fd 38 4 7 (.inl 42) RX4 TX4 24 tyX4 := ⟨rfl, cw_X4, tyX4_ok, nmX4, ⟨_, rfl, rfl⟩, by decide, rfl⟩
theorem s_42 : gn_S[42]? = some (.inl (0, 4)) := rfl
theorem fl_X4_26 : Cond.fieldLink RX4 26 RX4 (TX4 8).2.1 (TX4 8).2.2.1 ∈ gn_T := gn_t 774 (by decide +kernel) (by decide +kernel)
theorem q_38_8 : gn_Fd 38 4 8 (.inl 43) RX4 TX4 24 tyX4 := ⟨rfl, cw_X4, tyX4_ok, nmX4, ⟨_, rfl, rfl⟩, by decide, rfl⟩
theorem s_43 : gn_S[43]? = some (.inl (1, 240)) := rfl
theorem my_X4_text : gn_My yX4_text cX4_text 4 (some .int) 2 := ⟨gn_t 882 (by decide +kernel) (by decide +kernel), gn_t 107 (by decide +kernel) (by decide +kernel), by decide +kernel, by decide +kernel, by decide +kernel⟩
theorem mv_X4_text : gn_Mv yX4_text := ⟨gn_t 880 (by decide +kernel) (by decide +kernel), gn_t 881 (by decide +kernel) (by decide +kernel)⟩
theorem gk_s_1000 : (Int16.ofInt (1000)).toInt32 = (1000 : Int32) := by decide +kernel
theorem my_X3_put : gn_My yX3_put cX3_put 6 (some .int) 3 := ⟨gn_t 345 (by decide +kernel) (by decide +kernel), gn_t 102 (by decide +kernel) (by decide +kernel), by decide +kernel, by decide +kernel, by decide +kernel⟩
theorem mv_X3_put : gn_Mv yX3_put := ⟨gn_t 343 (by decide +kernel) (by decide +kernel), gn_t 344 (by decide +kernel) (by decide +kernel)⟩
theorem my_X4_put : gn_My yX4_put cX4_put 5 (some .int) 3 := ⟨gn_t 889 (by decide +kernel) (by decide +kernel), gn_t 107 (by decide +kernel) (by decide +kernel), by decide +kernel, by decide +kernel, by decide +kernel⟩
theorem mv_X4_put : gn_Mv yX4_put := ⟨gn_t 887 (by decide +kernel) (by decide +kernel), gn_t 888 (by decide +kernel) (by decide +kernel)⟩
theorem gk_b_6 : (Int8.ofInt (6)).toInt32 = (6 : Int32) := by decide +kernel
theorem fl_letters : Cond.fieldLink RX3 356 "GateNames" "LETTERS" "[I" ∈ gn_T := gn_t 359 (by decide +kernel) (by decide +kernel)
theorem gk_b_m9 : (Int8.ofInt (-9)).toInt32 = (-9 : Int32) := by decide +kernel
theorem my_X3_kindOfLetter : gn_My yX3_kindOfLetter cX3_kindOfLetter 2 (some .int) 1 := ⟨gn_t 358 (by decide +kernel) (by decide +kernel), gn_t 102 (by decide +kernel) (by decide +kernel), by decide +kernel, by decide +kernel, by decide +kernel⟩
theorem ms_X3_kindOfLetter : Cond.static yX3_kindOfLetter ∈ gn_T := gn_t 357 (by decide +kernel) (by decide +kernel)
theorem gk_b_48 : (Int8.ofInt (48)).toInt32 = (48 : Int32) := by decide +kernel
theorem gk_b_57 : (Int8.ofInt (57)).toInt32 = (57 : Int32) := by decide +kernel
theorem my_X3_isFigure : gn_My yX3_isFigure cX3_isFigure 1 (some .boolean) 1 := ⟨gn_t 363 (by decide +kernel) (by decide +kernel), gn_t 102 (by decide +kernel) (by decide +kernel), by decide +kernel, by decide +kernel, by decide +kernel⟩
theorem ms_X3_isFigure : Cond.static yX3_isFigure ∈ gn_T := gn_t 362 (by decide +kernel) (by decide +kernel)
theorem ml_X3_350 : Cond.methodLink RX3 350 yX3_kindOfLetter ∈ gn_T := gn_t 356 (by decide +kernel) (by decide +kernel)
theorem ml_X3_353 : Cond.methodLink RX3 353 yX3_isFigure ∈ gn_T := gn_t 361 (by decide +kernel) (by decide +kernel)
theorem my_X3_goodSigns : gn_My yX3_goodSigns cX3_goodSigns 3 (some .int) 3 := ⟨gn_t 355 (by decide +kernel) (by decide +kernel), gn_t 102 (by decide +kernel) (by decide +kernel), by decide +kernel, by decide +kernel, by decide +kernel⟩
theorem ms_X3_goodSigns : Cond.static yX3_goodSigns ∈ gn_T := gn_t 354 (by decide +kernel) (by decide +kernel)
theorem gk_b_7 : (Int8.ofInt (7)).toInt32 = (7 : Int32) := by decide +kernel
theorem ml_X3_346 : Cond.methodLink RX3 346 yX3_goodSigns ∈ gn_T := gn_t 353 (by decide +kernel) (by decide +kernel)
theorem my_X3_faultIn : gn_My yX3_faultIn cX3_faultIn 5 (some .int) 2 := ⟨gn_t 352 (by decide +kernel) (by decide +kernel), gn_t 102 (by decide +kernel) (by decide +kernel), by decide +kernel, by decide +kernel, by decide +kernel⟩
theorem ms_X3_faultIn : Cond.static yX3_faultIn ∈ gn_T := gn_t 351 (by decide +kernel) (by decide +kernel)
theorem ml_X3_119 : Cond.methodLink RX3 119 yX3_faultIn ∈ gn_T := gn_t 350 (by decide +kernel) (by decide +kernel)
theorem my_X3_fault : gn_My yX3_fault cX3_fault 3 (some .int) 1 := ⟨gn_t 349 (by decide +kernel) (by decide +kernel), gn_t 102 (by decide +kernel) (by decide +kernel), by decide +kernel, by decide +kernel, by decide +kernel⟩
theorem mv_X3_fault : gn_Mv yX3_fault := ⟨gn_t 347 (by decide +kernel) (by decide +kernel), gn_t 348 (by decide +kernel) (by decide +kernel)⟩
theorem gk_b_103 : (Int8.ofInt (103)).toInt32 = (103 : Int32) := by decide +kernel
theorem gk_b_107 : (Int8.ofInt (107)).toInt32 = (107 : Int32) := by decide +kernel
theorem gk_b_115 : (Int8.ofInt (115)).toInt32 = (115 : Int32) := by decide +kernel
theorem gk_b_109 : (Int8.ofInt (109)).toInt32 = (109 : Int32) := by decide +kernel
theorem gk_b_105 : (Int8.ofInt (105)).toInt32 = (105 : Int32) := by decide +kernel
theorem gk_b_102 : (Int8.ofInt (102)).toInt32 = (102 : Int32) := by decide +kernel
theorem my_X4_kindOf : gn_My yX4_kindOf cX4_kindOf 1 (some .int) 1 := ⟨gn_t 900 (by decide +kernel) (by decide +kernel), gn_t 107 (by decide +kernel) (by decide +kernel), by decide +kernel, by decide +kernel, by decide +kernel⟩
theorem ms_X4_kindOf : Cond.static yX4_kindOf ∈ gn_T := gn_t 899 (by decide +kernel) (by decide +kernel)
theorem fl_X4_95 : Cond.fieldLink RX4 95 RX4 (TX4 14).2.1 (TX4 14).2.2.1 ∈ gn_T := gn_t 780 (by decide +kernel) (by decide +kernel)
theorem q_38_14 : gn_Fd 38 4 14 (.inr false) RX4 TX4 24 tyX4 := ⟨rfl, cw_X4, tyX4_ok, nmX4, ⟨_, rfl, rfl⟩, by decide, rfl⟩
theorem ml_X4_98 : Cond.methodLink RX4 98 yX4_kindOf ∈ gn_T := gn_t 898 (by decide +kernel) (by decide +kernel)
theorem fl_X4_33 : Cond.fieldLink RX4 33 RX4 (TX4 11).2.1 (TX4 11).2.2.1 ∈ gn_T := gn_t 777 (by decide +kernel) (by decide +kernel)
theorem q_38_11 : gn_Fd 38 4 11 (.inl 45) RX4 TX4 24 tyX4 := ⟨rfl, cw_X4, tyX4_ok, nmX4, ⟨_, rfl, rfl⟩, by decide, rfl⟩
theorem s_45 : gn_S[45]? = some (.inl (0, 14)) := rfl
theorem fl_X4_36 : Cond.fieldLink RX4 36 RX4 (TX4 12).2.1 (TX4 12).2.2.1 ∈ gn_T := gn_t 778 (by decide +kernel) (by decide +kernel)
theorem q_38_12 : gn_Fd 38 4 12 (.inl 46) RX4 TX4 24 tyX4 := ⟨rfl, cw_X4, tyX4_ok, nmX4, ⟨_, rfl, rfl⟩, by decide, rfl⟩
theorem s_46 : gn_S[46]? = some (.inl (0, 14)) := rfl
theorem fl_X4_39 : Cond.fieldLink RX4 39 RX4 (TX4 13).2.1 (TX4 13).2.2.1 ∈ gn_T := gn_t 779 (by decide +kernel) (by decide +kernel)
theorem q_38_13 : gn_Fd 38 4 13 (.inl 47) RX4 TX4 24 tyX4 := ⟨rfl, cw_X4, tyX4_ok, nmX4, ⟨_, rfl, rfl⟩, by decide, rfl⟩
theorem s_47 : gn_S[47]? = some (.inl (0, 14)) := rfl
theorem my_X4_read : gn_My yX4_read cX4_read 5 (some .int) 1 := ⟨gn_t 897 (by decide +kernel) (by decide +kernel), gn_t 107 (by decide +kernel) (by decide +kernel), by decide +kernel, by decide +kernel, by decide +kernel⟩
theorem mv_X4_read : gn_Mv yX4_read := ⟨gn_t 896 (by decide +kernel) (by decide +kernel), gn_t 65 (by decide +kernel) (by decide +kernel)⟩
theorem ml_X4_101 : Cond.methodLink RX4 101 yX4_read ∈ gn_T := gn_t 894 (by decide +kernel) (by decide +kernel)
theorem my_X4_fault : gn_My yX4_fault cX4_fault 2 (some .int) 1 := ⟨gn_t 893 (by decide +kernel) (by decide +kernel), gn_t 107 (by decide +kernel) (by decide +kernel), by decide +kernel, by decide +kernel, by decide +kernel⟩
theorem mv_X4_fault : gn_Mv yX4_fault := ⟨gn_t 891 (by decide +kernel) (by decide +kernel), gn_t 892 (by decide +kernel) (by decide +kernel)⟩
theorem fl_X0_18 : Cond.fieldLink RX0 18 RX0 (TX0 2).2.1 (TX0 2).2.2.1 ∈ gn_T := gn_t 154 (by decide +kernel) (by decide +kernel)
theorem q_7_2 : gn_Fd 7 0 2 (.inl 29) RX0 TX0 11 tyX0 := ⟨rfl, cw_X0, tyX0_ok, nmX0, ⟨_, rfl, rfl⟩, by decide, rfl⟩
theorem fl_X0_21 : Cond.fieldLink RX0 21 RX0 (TX0 3).2.1 (TX0 3).2.2.1 ∈ gn_T := gn_t 155 (by decide +kernel) (by decide +kernel)
theorem q_7_3 : gn_Fd 7 0 3 (.inl 30) RX0 TX0 11 tyX0 := ⟨rfl, cw_X0, tyX0_ok, nmX0, ⟨_, rfl, rfl⟩, by decide, rfl⟩
theorem ml_X0_67 : Cond.methodLink RX0 67 arraycopyName ∈ gn_T := gn_t 378 (by decide +kernel) (by decide +kernel)
theorem s_29 : gn_S[29]? = some (.inl (0, 7)) := rfl
theorem s_30 : gn_S[30]? = some (.inl (0, 7)) := rfl
theorem fl_X0_37 : Cond.fieldLink RX0 37 RX0 (TX0 8).2.1 (TX0 8).2.2.1 ∈ gn_T := gn_t 166 (by decide +kernel) (by decide +kernel)
theorem q_7_8 : gn_Fd 7 0 8 (.inr false) RX0 TX0 11 tyX0 := ⟨rfl, cw_X0, tyX0_ok, nmX0, ⟨_, rfl, rfl⟩, by decide, rfl⟩
theorem fl_X0_40 : Cond.fieldLink RX0 40 RX0 (TX0 9).2.1 (TX0 9).2.2.1 ∈ gn_T := gn_t 168 (by decide +kernel) (by decide +kernel)
theorem q_7_9 : gn_Fd 7 0 9 (.inr false) RX0 TX0 11 tyX0 := ⟨rfl, cw_X0, tyX0_ok, nmX0, ⟨_, rfl, rfl⟩, by decide, rfl⟩
theorem fl_X0_43 : Cond.fieldLink RX0 43 RX0 (TX0 10).2.1 (TX0 10).2.2.1 ∈ gn_T := gn_t 171 (by decide +kernel) (by decide +kernel)
theorem q_7_10 : gn_Fd 7 0 10 (.inr false) RX0 TX0 11 tyX0 := ⟨rfl, cw_X0, tyX0_ok, nmX0, ⟨_, rfl, rfl⟩, by decide, rfl⟩
theorem my_X0_startAnew : gn_My yX0_startAnew cX0_startAnew 1 none 0 := ⟨gn_t 377 (by decide +kernel) (by decide +kernel), gn_t 105 (by decide +kernel) (by decide +kernel), by decide +kernel, by decide +kernel, by decide +kernel⟩
theorem mv_X0_startAnew : gn_Mv yX0_startAnew := ⟨gn_t 376 (by decide +kernel) (by decide +kernel), gn_t 11 (by decide +kernel) (by decide +kernel)⟩
theorem pl_X0 : plainName RX0 = true := by decide +kernel
theorem fl_X0_30 : Cond.fieldLink RX0 30 RX0 (TX0 6).2.1 (TX0 6).2.2.1 ∈ gn_T := gn_t 161 (by decide +kernel) (by decide +kernel)
theorem q_7_6 : gn_Fd 7 0 6 (.inr false) RX0 TX0 11 tyX0 := ⟨rfl, cw_X0, tyX0_ok, nmX0, ⟨_, rfl, rfl⟩, by decide, rfl⟩
theorem fl_X0_24 : Cond.fieldLink RX0 24 RX0 (TX0 4).2.1 (TX0 4).2.2.1 ∈ gn_T := gn_t 157 (by decide +kernel) (by decide +kernel)
theorem q_7_4 : gn_Fd 7 0 4 (.inl 31) RX0 TX0 11 tyX0 := ⟨rfl, cw_X0, tyX0_ok, nmX0, ⟨_, rfl, rfl⟩, by decide, rfl⟩
theorem ml_X0_54 : Cond.methodLink RX0 54 yJ7_fill_53178 ∈ gn_T := gn_t 372 (by decide +kernel) (by decide +kernel)
theorem s_31 : gn_S[31]? = some (.inl (0, 6)) := rfl
theorem ml_X0_60 : Cond.methodLinkNest RX0 60 yX3_kindOfLetter "GateNames" ∈ gn_N := gn_nn 373 (by decide +kernel) (by decide +kernel)
theorem fl_X0_9 : Cond.fieldLink RX0 9 RX0 (TX0 0).2.1 (TX0 0).2.2.1 ∈ gn_T := gn_t 150 (by decide +kernel) (by decide +kernel)
theorem q_7_0 : gn_Fd 7 0 0 (.inl 27) RX0 TX0 11 tyX0 := ⟨rfl, cw_X0, tyX0_ok, nmX0, ⟨_, rfl, rfl⟩, by decide, rfl⟩
theorem s_27 : gn_S[27]? = some (.inl (0, 7)) := rfl
theorem fl_X0_15 : Cond.fieldLink RX0 15 RX0 (TX0 1).2.1 (TX0 1).2.2.1 ∈ gn_T := gn_t 152 (by decide +kernel) (by decide +kernel)
theorem q_7_1 : gn_Fd 7 0 1 (.inl 28) RX0 TX0 11 tyX0 := ⟨rfl, cw_X0, tyX0_ok, nmX0, ⟨_, rfl, rfl⟩, by decide, rfl⟩
theorem s_28 : gn_S[28]? = some (.inl (0, 7)) := rfl
theorem fl_X0_34 : Cond.fieldLink RX0 34 RX0 (TX0 7).2.1 (TX0 7).2.2.1 ∈ gn_T := gn_t 164 (by decide +kernel) (by decide +kernel)
theorem q_7_7 : gn_Fd 7 0 7 (.inr false) RX0 TX0 11 tyX0 := ⟨rfl, cw_X0, tyX0_ok, nmX0, ⟨_, rfl, rfl⟩, by decide, rfl⟩
theorem ml_X0_64 : Cond.methodLink RX0 64 yX0_startAnew ∈ gn_T := gn_t 374 (by decide +kernel) (by decide +kernel)
theorem ob_7 : gn_Ob 7 RX0 := ⟨0, _, _, _, rfl, rfl⟩
theorem my_X0_gather : gn_My yX0_gather cX0_gather 5 none 2 := ⟨gn_t 371 (by decide +kernel) (by decide +kernel), gn_t 105 (by decide +kernel) (by decide +kernel), by decide +kernel, by decide +kernel, by decide +kernel⟩
theorem mv_X0_gather : gn_Mv yX0_gather := ⟨gn_t 370 (by decide +kernel) (by decide +kernel), gn_t 10 (by decide +kernel) (by decide +kernel)⟩
theorem fl_X3_24 : Cond.fieldLink RX3 24 RX3 (TX3 2).2.1 (TX3 2).2.2.1 ∈ gn_T := gn_t 233 (by decide +kernel) (by decide +kernel)
theorem q_0_2 : gn_Fd 0 3 2 (.inl 7) RX3 TX3 13 tyX3 := ⟨rfl, cw_X3, tyX3_ok, nmX3, ⟨_, rfl, rfl⟩, by decide, rfl⟩
theorem ml_X3_123 : Cond.methodLinkNest RX3 123 yX0_gather "GateNames" ∈ gn_N := gn_nn 368 (by decide +kernel) (by decide +kernel)
theorem fl_X3_40 : Cond.fieldLink RX3 40 RX3 (TX3 5).2.1 (TX3 5).2.2.1 ∈ gn_T := gn_t 236 (by decide +kernel) (by decide +kernel)
theorem q_0_5 : gn_Fd 0 3 5 (.inl 23) RX3 TX3 13 tyX3 := ⟨rfl, cw_X3, tyX3_ok, nmX3, ⟨_, rfl, rfl⟩, by decide, rfl⟩
theorem ml_X3_67 : Cond.methodLink RX3 67 yJ7_fill_53178 ∈ gn_T := gn_t 230 (by decide +kernel) (by decide +kernel)
theorem s_23 : gn_S[23]? = some (.inl (0, 3)) := rfl
theorem fl_X3_126 : Cond.fieldLinkNest RX3 126 RX0 (TX0 6).2.1 (TX0 6).2.2.1 "GateNames" ∈ gn_N := gn_nn 163 (by decide +kernel) (by decide +kernel)
theorem gk_b_m4 : (Int8.ofInt (-4)).toInt32 = (-4 : Int32) := by decide +kernel
theorem my_X3_gate : gn_My yX3_gate cX3_gate 3 (some .int) 1 := ⟨gn_t 367 (by decide +kernel) (by decide +kernel), gn_t 102 (by decide +kernel) (by decide +kernel), by decide +kernel, by decide +kernel, by decide +kernel⟩
theorem mv_X3_gate : gn_Mv yX3_gate := ⟨gn_t 365 (by decide +kernel) (by decide +kernel), gn_t 366 (by decide +kernel) (by decide +kernel)⟩
theorem fl_X4_104 : Cond.fieldLink RX4 104 RX4 (TX4 10).2.1 (TX4 10).2.2.1 ∈ gn_T := gn_t 776 (by decide +kernel) (by decide +kernel)
theorem q_38_10 : gn_Fd 38 4 10 (.inr false) RX4 TX4 24 tyX4 := ⟨rfl, cw_X4, tyX4_ok, nmX4, ⟨_, rfl, rfl⟩, by decide, rfl⟩
theorem fl_X4_42 : Cond.fieldLink RX4 42 RX4 (TX4 15).2.1 (TX4 15).2.2.1 ∈ gn_T := gn_t 781 (by decide +kernel) (by decide +kernel)
theorem q_38_15 : gn_Fd 38 4 15 (.inl 48) RX4 TX4 24 tyX4 := ⟨rfl, cw_X4, tyX4_ok, nmX4, ⟨_, rfl, rfl⟩, by decide, rfl⟩
theorem s_48 : gn_S[48]? = some (.inl (0, 410)) := rfl
theorem gk_b_8 : (Int8.ofInt (8)).toInt32 = (8 : Int32) := by decide +kernel
theorem gk_b_9 : (Int8.ofInt (9)).toInt32 = (9 : Int32) := by decide +kernel
theorem fl_X4_107 : Cond.fieldLink RX4 107 RX4 (TX4 16).2.1 (TX4 16).2.2.1 ∈ gn_T := gn_t 782 (by decide +kernel) (by decide +kernel)
theorem q_38_16 : gn_Fd 38 4 16 (.inr false) RX4 TX4 24 tyX4 := ⟨rfl, cw_X4, tyX4_ok, nmX4, ⟨_, rfl, rfl⟩, by decide, rfl⟩
theorem fl_X4_48 : Cond.fieldLink RX4 48 RX4 (TX4 18).2.1 (TX4 18).2.2.1 ∈ gn_T := gn_t 784 (by decide +kernel) (by decide +kernel)
theorem q_38_18 : gn_Fd 38 4 18 (.inl 50) RX4 TX4 24 tyX4 := ⟨rfl, cw_X4, tyX4_ok, nmX4, ⟨_, rfl, rfl⟩, by decide, rfl⟩
theorem s_50 : gn_S[50]? = some (.inl (0, 3)) := rfl
theorem my_X4_gate : gn_My yX4_gate cX4_gate 4 (some .int) 1 := ⟨gn_t 904 (by decide +kernel) (by decide +kernel), gn_t 107 (by decide +kernel) (by decide +kernel), by decide +kernel, by decide +kernel, by decide +kernel⟩
theorem mv_X4_gate : gn_Mv yX4_gate := ⟨gn_t 902 (by decide +kernel) (by decide +kernel), gn_t 903 (by decide +kernel) (by decide +kernel)⟩
theorem my_X0_numbers : gn_My yX0_numbers cX0_numbers 2 (some .boolean) 1 := ⟨gn_t 386 (by decide +kernel) (by decide +kernel), gn_t 105 (by decide +kernel) (by decide +kernel), by decide +kernel, by decide +kernel, by decide +kernel⟩
theorem mv_X0_numbers : gn_Mv yX0_numbers := ⟨gn_t 385 (by decide +kernel) (by decide +kernel), gn_t 12 (by decide +kernel) (by decide +kernel)⟩
theorem my_X3_tellingAs : gn_My yX3_tellingAs cX3_tellingAs 4 (some .int) 3 := ⟨gn_t 397 (by decide +kernel) (by decide +kernel), gn_t 102 (by decide +kernel) (by decide +kernel), by decide +kernel, by decide +kernel, by decide +kernel⟩
theorem ms_X3_tellingAs : Cond.static yX3_tellingAs ∈ gn_T := gn_t 396 (by decide +kernel) (by decide +kernel)
theorem ml_X0_87 : Cond.methodLinkNest RX0 87 yX3_tellingAs "GateNames" ∈ gn_N := gn_nn 395 (by decide +kernel) (by decide +kernel)
theorem my_X0_tellingOf : gn_My yX0_tellingOf cX0_tellingOf 2 (some .int) 1 := ⟨gn_t 394 (by decide +kernel) (by decide +kernel), gn_t 105 (by decide +kernel) (by decide +kernel), by decide +kernel, by decide +kernel, by decide +kernel⟩
theorem mv_X0_tellingOf : gn_Mv yX0_tellingOf := ⟨gn_t 393 (by decide +kernel) (by decide +kernel), gn_t 14 (by decide +kernel) (by decide +kernel)⟩
theorem my_X0_naming : gn_My yX0_naming cX0_naming 4 (some .int) 2 := ⟨gn_t 401 (by decide +kernel) (by decide +kernel), gn_t 105 (by decide +kernel) (by decide +kernel), by decide +kernel, by decide +kernel, by decide +kernel⟩
theorem mv_X0_naming : gn_Mv yX0_naming := ⟨gn_t 400 (by decide +kernel) (by decide +kernel), gn_t 15 (by decide +kernel) (by decide +kernel)⟩
theorem my_X3_isIn : gn_My yX3_isIn cX3_isIn 2 (some .boolean) 2 := ⟨gn_t 408 (by decide +kernel) (by decide +kernel), gn_t 102 (by decide +kernel) (by decide +kernel), by decide +kernel, by decide +kernel, by decide +kernel⟩
theorem ms_X3_isIn : Cond.static yX3_isIn ∈ gn_T := gn_t 407 (by decide +kernel) (by decide +kernel)
theorem ml_X0_46 : Cond.methodLinkNest RX0 46 yX3_isIn "GateNames" ∈ gn_N := gn_nn 406 (by decide +kernel) (by decide +kernel)
theorem my_X0_waits : gn_My yX0_waits cX0_waits 2 (some .boolean) 1 := ⟨gn_t 405 (by decide +kernel) (by decide +kernel), gn_t 105 (by decide +kernel) (by decide +kernel), by decide +kernel, by decide +kernel, by decide +kernel⟩
theorem mv_X0_waits : gn_Mv yX0_waits := ⟨gn_t 404 (by decide +kernel) (by decide +kernel), gn_t 16 (by decide +kernel) (by decide +kernel)⟩
theorem ml_X0_50 : Cond.methodLink RX0 50 yX0_waits ∈ gn_T := gn_t 413 (by decide +kernel) (by decide +kernel)
theorem ml_X0_96 : Cond.methodLink RX0 96 yX0_naming ∈ gn_T := gn_t 414 (by decide +kernel) (by decide +kernel)
theorem my_X0_opensTo : gn_My yX0_opensTo cX0_opensTo 2 (some .boolean) 1 := ⟨gn_t 412 (by decide +kernel) (by decide +kernel), gn_t 105 (by decide +kernel) (by decide +kernel), by decide +kernel, by decide +kernel, by decide +kernel⟩
theorem mv_X0_opensTo : gn_Mv yX0_opensTo := ⟨gn_t 411 (by decide +kernel) (by decide +kernel), gn_t 17 (by decide +kernel) (by decide +kernel)⟩
theorem fl_X3_134 : Cond.fieldLinkNest RX3 134 RX0 (TX0 0).2.1 (TX0 0).2.2.1 "GateNames" ∈ gn_N := gn_nn 151 (by decide +kernel) (by decide +kernel)
theorem fl_X3_305 : Cond.fieldLinkNest RX3 305 RX0 (TX0 1).2.1 (TX0 1).2.2.1 "GateNames" ∈ gn_N := gn_nn 153 (by decide +kernel) (by decide +kernel)
theorem fl_X3_203 : Cond.fieldLinkNest RX3 203 RX0 (TX0 3).2.1 (TX0 3).2.2.1 "GateNames" ∈ gn_N := gn_nn 156 (by decide +kernel) (by decide +kernel)
theorem ml_X3_148 : Cond.methodLinkNest RX3 148 yX0_tellingOf "GateNames" ∈ gn_N := gn_nn 391 (by decide +kernel) (by decide +kernel)
theorem ml_X3_308 : Cond.methodLinkNest RX3 308 yX0_naming "GateNames" ∈ gn_N := gn_nn 398 (by decide +kernel) (by decide +kernel)
theorem ml_X3_244 : Cond.methodLinkNest RX3 244 yX0_waits "GateNames" ∈ gn_N := gn_nn 402 (by decide +kernel) (by decide +kernel)
theorem ml_X3_182 : Cond.methodLinkNest RX3 182 yX0_opensTo "GateNames" ∈ gn_N := gn_nn 409 (by decide +kernel) (by decide +kernel)
theorem my_X3_traitOf : gn_My yX3_traitOf cX3_traitOf 3 (some .int) 2 := ⟨gn_t 390 (by decide +kernel) (by decide +kernel), gn_t 102 (by decide +kernel) (by decide +kernel), by decide +kernel, by decide +kernel, by decide +kernel⟩
theorem mv_X3_traitOf : gn_Mv yX3_traitOf := ⟨gn_t 389 (by decide +kernel) (by decide +kernel), gn_t 13 (by decide +kernel) (by decide +kernel)⟩
theorem ml_X3_129 : Cond.methodLinkNest RX3 129 yX0_numbers "GateNames" ∈ gn_N := gn_nn 383 (by decide +kernel) (by decide +kernel)
theorem ml_X3_130 : Cond.methodLink RX3 130 yX3_traitOf ∈ gn_T := gn_t 387 (by decide +kernel) (by decide +kernel)
theorem my_X3_goer : gn_My yX3_goer cX3_goer 3 (some .int) 2 := ⟨gn_t 382 (by decide +kernel) (by decide +kernel), gn_t 102 (by decide +kernel) (by decide +kernel), by decide +kernel, by decide +kernel, by decide +kernel⟩
theorem mv_X3_goer : gn_Mv yX3_goer := ⟨gn_t 380 (by decide +kernel) (by decide +kernel), gn_t 381 (by decide +kernel) (by decide +kernel)⟩
theorem my_X4_isGoer : gn_My yX4_isGoer cX4_isGoer 2 (some .boolean) 1 := ⟨gn_t 912 (by decide +kernel) (by decide +kernel), gn_t 107 (by decide +kernel) (by decide +kernel), by decide +kernel, by decide +kernel, by decide +kernel⟩
theorem mv_X4_isGoer : gn_Mv yX4_isGoer := ⟨gn_t 911 (by decide +kernel) (by decide +kernel), gn_t 66 (by decide +kernel) (by decide +kernel)⟩
theorem gk_b_10 : (Int8.ofInt (10)).toInt32 = (10 : Int32) := by decide +kernel
theorem my_X4_now : gn_My yX4_now cX4_now 2 (some .int) 1 := ⟨gn_t 924 (by decide +kernel) (by decide +kernel), gn_t 107 (by decide +kernel) (by decide +kernel), by decide +kernel, by decide +kernel, by decide +kernel⟩
theorem mv_X4_now : gn_Mv yX4_now := ⟨gn_t 923 (by decide +kernel) (by decide +kernel), gn_t 69 (by decide +kernel) (by decide +kernel)⟩
theorem ml_X4_110 : Cond.methodLink RX4 110 yX4_now ∈ gn_T := gn_t 921 (by decide +kernel) (by decide +kernel)
theorem my_X4_toldOf : gn_My yX4_toldOf cX4_toldOf 2 (some .int) 1 := ⟨gn_t 920 (by decide +kernel) (by decide +kernel), gn_t 107 (by decide +kernel) (by decide +kernel), by decide +kernel, by decide +kernel, by decide +kernel⟩
theorem mv_X4_toldOf : gn_Mv yX4_toldOf := ⟨gn_t 919 (by decide +kernel) (by decide +kernel), gn_t 68 (by decide +kernel) (by decide +kernel)⟩
theorem my_X4_tellsBy : gn_My yX4_tellsBy cX4_tellsBy 4 (some .int) 3 := ⟨gn_t 931 (by decide +kernel) (by decide +kernel), gn_t 107 (by decide +kernel) (by decide +kernel), by decide +kernel, by decide +kernel, by decide +kernel⟩
theorem ms_X4_tellsBy : Cond.static yX4_tellsBy ∈ gn_T := gn_t 930 (by decide +kernel) (by decide +kernel)
theorem ml_X4_113 : Cond.methodLink RX4 113 yX4_toldOf ∈ gn_T := gn_t 917 (by decide +kernel) (by decide +kernel)
theorem ml_X4_116 : Cond.methodLink RX4 116 yX4_tellsBy ∈ gn_T := gn_t 929 (by decide +kernel) (by decide +kernel)
theorem my_X4_tellsOf : gn_My yX4_tellsOf cX4_tellsOf 2 (some .int) 1 := ⟨gn_t 928 (by decide +kernel) (by decide +kernel), gn_t 107 (by decide +kernel) (by decide +kernel), by decide +kernel, by decide +kernel, by decide +kernel⟩
theorem mv_X4_tellsOf : gn_Mv yX4_tellsOf := ⟨gn_t 927 (by decide +kernel) (by decide +kernel), gn_t 70 (by decide +kernel) (by decide +kernel)⟩
theorem my_X4_ofKind : gn_My yX4_ofKind cX4_ofKind 4 (some .int) 1 := ⟨gn_t 943 (by decide +kernel) (by decide +kernel), gn_t 107 (by decide +kernel) (by decide +kernel), by decide +kernel, by decide +kernel, by decide +kernel⟩
theorem mv_X4_ofKind : gn_Mv yX4_ofKind := ⟨gn_t 942 (by decide +kernel) (by decide +kernel), gn_t 73 (by decide +kernel) (by decide +kernel)⟩
theorem my_X4_has : gn_My yX4_has cX4_has 2 (some .boolean) 2 := ⟨gn_t 946 (by decide +kernel) (by decide +kernel), gn_t 107 (by decide +kernel) (by decide +kernel), by decide +kernel, by decide +kernel, by decide +kernel⟩
theorem ms_X4_has : Cond.static yX4_has ∈ gn_T := gn_t 945 (by decide +kernel) (by decide +kernel)
theorem ml_X4_120 : Cond.methodLink RX4 120 yX4_ofKind ∈ gn_T := gn_t 940 (by decide +kernel) (by decide +kernel)
theorem ml_X4_123 : Cond.methodLink RX4 123 yX4_has ∈ gn_T := gn_t 944 (by decide +kernel) (by decide +kernel)
theorem my_X4_namesBy : gn_My yX4_namesBy cX4_namesBy 5 (some .int) 2 := ⟨gn_t 939 (by decide +kernel) (by decide +kernel), gn_t 107 (by decide +kernel) (by decide +kernel), by decide +kernel, by decide +kernel, by decide +kernel⟩
theorem mv_X4_namesBy : gn_Mv yX4_namesBy := ⟨gn_t 938 (by decide +kernel) (by decide +kernel), gn_t 72 (by decide +kernel) (by decide +kernel)⟩
theorem ml_X4_127 : Cond.methodLink RX4 127 yX4_namesBy ∈ gn_T := gn_t 936 (by decide +kernel) (by decide +kernel)
theorem my_X4_namesOf : gn_My yX4_namesOf cX4_namesOf 2 (some .int) 1 := ⟨gn_t 935 (by decide +kernel) (by decide +kernel), gn_t 107 (by decide +kernel) (by decide +kernel), by decide +kernel, by decide +kernel, by decide +kernel⟩
theorem mv_X4_namesOf : gn_Mv yX4_namesOf := ⟨gn_t 934 (by decide +kernel) (by decide +kernel), gn_t 71 (by decide +kernel) (by decide +kernel)⟩
theorem my_X4_isThrough : gn_My yX4_isThrough cX4_isThrough 2 (some .boolean) 1 := ⟨gn_t 950 (by decide +kernel) (by decide +kernel), gn_t 107 (by decide +kernel) (by decide +kernel), by decide +kernel, by decide +kernel, by decide +kernel⟩
theorem mv_X4_isThrough : gn_Mv yX4_isThrough := ⟨gn_t 949 (by decide +kernel) (by decide +kernel), gn_t 74 (by decide +kernel) (by decide +kernel)⟩
theorem ml_X4_131 : Cond.methodLink RX4 131 yX4_isThrough ∈ gn_T := gn_t 947 (by decide +kernel) (by decide +kernel)
theorem ml_X4_134 : Cond.methodLink RX4 134 yX4_namesOf ∈ gn_T := gn_t 932 (by decide +kernel) (by decide +kernel)
theorem my_X4_isOpen : gn_My yX4_isOpen cX4_isOpen 2 (some .boolean) 1 := ⟨gn_t 954 (by decide +kernel) (by decide +kernel), gn_t 107 (by decide +kernel) (by decide +kernel), by decide +kernel, by decide +kernel, by decide +kernel⟩
theorem mv_X4_isOpen : gn_Mv yX4_isOpen := ⟨gn_t 953 (by decide +kernel) (by decide +kernel), gn_t 75 (by decide +kernel) (by decide +kernel)⟩
theorem ml_X4_140 : Cond.methodLink RX4 140 yX4_tellsOf ∈ gn_T := gn_t 925 (by decide +kernel) (by decide +kernel)
theorem ml_X4_137 : Cond.methodLink RX4 137 yX4_isOpen ∈ gn_T := gn_t 951 (by decide +kernel) (by decide +kernel)
theorem my_X4_factOf : gn_My yX4_factOf cX4_factOf 3 (some .int) 2 := ⟨gn_t 916 (by decide +kernel) (by decide +kernel), gn_t 107 (by decide +kernel) (by decide +kernel), by decide +kernel, by decide +kernel, by decide +kernel⟩
theorem mv_X4_factOf : gn_Mv yX4_factOf := ⟨gn_t 915 (by decide +kernel) (by decide +kernel), gn_t 67 (by decide +kernel) (by decide +kernel)⟩
theorem ml_X4_143 : Cond.methodLink RX4 143 yX4_isGoer ∈ gn_T := gn_t 909 (by decide +kernel) (by decide +kernel)
theorem ml_X4_146 : Cond.methodLink RX4 146 yX4_factOf ∈ gn_T := gn_t 913 (by decide +kernel) (by decide +kernel)
theorem my_X4_goer : gn_My yX4_goer cX4_goer 3 (some .int) 2 := ⟨gn_t 908 (by decide +kernel) (by decide +kernel), gn_t 107 (by decide +kernel) (by decide +kernel), by decide +kernel, by decide +kernel, by decide +kernel⟩
theorem mv_X4_goer : gn_Mv yX4_goer := ⟨gn_t 906 (by decide +kernel) (by decide +kernel), gn_t 907 (by decide +kernel) (by decide +kernel)⟩
theorem my_X0_toldOf : gn_My yX0_toldOf cX0_toldOf 4 (some .int) 1 := ⟨gn_t 422 (by decide +kernel) (by decide +kernel), gn_t 105 (by decide +kernel) (by decide +kernel), by decide +kernel, by decide +kernel, by decide +kernel⟩
theorem mv_X0_toldOf : gn_Mv yX0_toldOf := ⟨gn_t 421 (by decide +kernel) (by decide +kernel), gn_t 18 (by decide +kernel) (by decide +kernel)⟩
theorem kc_J6_265 : Cond.constant RJ6 265 (1431655765) ∈ gn_T := gn_t 426 (by decide +kernel) (by decide +kernel)
theorem kc_J6_266 : Cond.constant RJ6 266 (858993459) ∈ gn_T := gn_t 427 (by decide +kernel) (by decide +kernel)
theorem kc_J6_267 : Cond.constant RJ6 267 (252645135) ∈ gn_T := gn_t 428 (by decide +kernel) (by decide +kernel)
theorem gk_b_16 : (Int8.ofInt (16)).toInt32 = (16 : Int32) := by decide +kernel
theorem gk_b_63 : (Int8.ofInt (63)).toInt32 = (63 : Int32) := by decide +kernel
theorem my_J6_bitCount_0f7a4 : gn_My yJ6_bitCount_0f7a4 cJ6_bitCount_0f7a4 1 (some .int) 1 := ⟨gn_t 425 (by decide +kernel) (by decide +kernel), gn_t 109 (by decide +kernel) (by decide +kernel), by decide +kernel, by decide +kernel, by decide +kernel⟩
theorem ms_J6_bitCount_0f7a4 : Cond.static yJ6_bitCount_0f7a4 ∈ gn_T := gn_t 424 (by decide +kernel) (by decide +kernel)
theorem pl_J6 : plainName RJ6 = true := by decide +kernel
theorem my_X0_namersOf : gn_My yX0_namersOf cX0_namersOf 4 (some .int) 1 := ⟨gn_t 432 (by decide +kernel) (by decide +kernel), gn_t 105 (by decide +kernel) (by decide +kernel), by decide +kernel, by decide +kernel, by decide +kernel⟩
theorem mv_X0_namersOf : gn_Mv yX0_namersOf := ⟨gn_t 431 (by decide +kernel) (by decide +kernel), gn_t 19 (by decide +kernel) (by decide +kernel)⟩
theorem my_X0_left : gn_My yX0_left cX0_left 1 (some .int) 0 := ⟨gn_t 436 (by decide +kernel) (by decide +kernel), gn_t 105 (by decide +kernel) (by decide +kernel), by decide +kernel, by decide +kernel, by decide +kernel⟩
theorem mv_X0_left : gn_Mv yX0_left := ⟨gn_t 435 (by decide +kernel) (by decide +kernel), gn_t 20 (by decide +kernel) (by decide +kernel)⟩
theorem ml_X3_137 : Cond.methodLinkNest RX3 137 yX0_toldOf "GateNames" ∈ gn_N := gn_nn 419 (by decide +kernel) (by decide +kernel)
theorem ml_X3_140 : Cond.methodLink RX3 140 yJ6_bitCount_0f7a4 ∈ gn_T := gn_t 423 (by decide +kernel) (by decide +kernel)
theorem ml_X3_145 : Cond.methodLinkNest RX3 145 yX0_namersOf "GateNames" ∈ gn_N := gn_nn 429 (by decide +kernel) (by decide +kernel)
theorem ml_X3_151 : Cond.methodLinkNest RX3 151 yX0_left "GateNames" ∈ gn_N := gn_nn 433 (by decide +kernel) (by decide +kernel)
theorem my_X3_mark : gn_My yX3_mark cX3_mark 4 (some .int) 2 := ⟨gn_t 418 (by decide +kernel) (by decide +kernel), gn_t 102 (by decide +kernel) (by decide +kernel), by decide +kernel, by decide +kernel, by decide +kernel⟩
theorem mv_X3_mark : gn_Mv yX3_mark := ⟨gn_t 416 (by decide +kernel) (by decide +kernel), gn_t 417 (by decide +kernel) (by decide +kernel)⟩
theorem my_X4_left : gn_My yX4_left cX4_left 1 (some .int) 0 := ⟨gn_t 962 (by decide +kernel) (by decide +kernel), gn_t 107 (by decide +kernel) (by decide +kernel), by decide +kernel, by decide +kernel, by decide +kernel⟩
theorem mv_X4_left : gn_Mv yX4_left := ⟨gn_t 961 (by decide +kernel) (by decide +kernel), gn_t 76 (by decide +kernel) (by decide +kernel)⟩
theorem my_X4_bitsOf : gn_My yX4_bitsOf cX4_bitsOf 3 (some .int) 1 := ⟨gn_t 965 (by decide +kernel) (by decide +kernel), gn_t 107 (by decide +kernel) (by decide +kernel), by decide +kernel, by decide +kernel, by decide +kernel⟩
theorem ms_X4_bitsOf : Cond.static yX4_bitsOf ∈ gn_T := gn_t 964 (by decide +kernel) (by decide +kernel)
theorem ml_X4_153 : Cond.methodLink RX4 153 yX4_bitsOf ∈ gn_T := gn_t 963 (by decide +kernel) (by decide +kernel)
theorem ml_X4_149 : Cond.methodLink RX4 149 yX4_left ∈ gn_T := gn_t 959 (by decide +kernel) (by decide +kernel)
theorem my_X4_mark : gn_My yX4_mark cX4_mark 8 (some .int) 2 := ⟨gn_t 958 (by decide +kernel) (by decide +kernel), gn_t 107 (by decide +kernel) (by decide +kernel), by decide +kernel, by decide +kernel, by decide +kernel⟩
theorem mv_X4_mark : gn_Mv yX4_mark := ⟨gn_t 956 (by decide +kernel) (by decide +kernel), gn_t 957 (by decide +kernel) (by decide +kernel)⟩
theorem my_X0_holds : gn_My yX0_holds cX0_holds 2 (some .boolean) 1 := ⟨gn_t 444 (by decide +kernel) (by decide +kernel), gn_t 105 (by decide +kernel) (by decide +kernel), by decide +kernel, by decide +kernel, by decide +kernel⟩
theorem mv_X0_holds : gn_Mv yX0_holds := ⟨gn_t 443 (by decide +kernel) (by decide +kernel), gn_t 21 (by decide +kernel) (by decide +kernel)⟩
theorem ml_X3_155 : Cond.methodLinkNest RX3 155 yX0_holds "GateNames" ∈ gn_N := gn_nn 441 (by decide +kernel) (by decide +kernel)
theorem ml_X3_158 : Cond.methodLink RX3 158 yX3_tellingAs ∈ gn_T := gn_t 445 (by decide +kernel) (by decide +kernel)
theorem my_X3_tells : gn_My yX3_tells cX3_tells 3 (some .int) 2 := ⟨gn_t 440 (by decide +kernel) (by decide +kernel), gn_t 102 (by decide +kernel) (by decide +kernel), by decide +kernel, by decide +kernel, by decide +kernel⟩
theorem mv_X3_tells : gn_Mv yX3_tells := ⟨gn_t 438 (by decide +kernel) (by decide +kernel), gn_t 439 (by decide +kernel) (by decide +kernel)⟩
theorem my_X4_isSet : gn_My yX4_isSet cX4_isSet 2 (some .boolean) 1 := ⟨gn_t 973 (by decide +kernel) (by decide +kernel), gn_t 107 (by decide +kernel) (by decide +kernel), by decide +kernel, by decide +kernel, by decide +kernel⟩
theorem mv_X4_isSet : gn_Mv yX4_isSet := ⟨gn_t 972 (by decide +kernel) (by decide +kernel), gn_t 77 (by decide +kernel) (by decide +kernel)⟩
theorem ml_X4_156 : Cond.methodLink RX4 156 yX4_isSet ∈ gn_T := gn_t 970 (by decide +kernel) (by decide +kernel)
theorem my_X4_tells : gn_My yX4_tells cX4_tells 3 (some .int) 2 := ⟨gn_t 969 (by decide +kernel) (by decide +kernel), gn_t 107 (by decide +kernel) (by decide +kernel), by decide +kernel, by decide +kernel, by decide +kernel⟩
theorem mv_X4_tells : gn_Mv yX4_tells := ⟨gn_t 967 (by decide +kernel) (by decide +kernel), gn_t 968 (by decide +kernel) (by decide +kernel)⟩
theorem my_X0_canMeet : gn_My yX0_canMeet cX0_canMeet 3 (some .boolean) 2 := ⟨gn_t 453 (by decide +kernel) (by decide +kernel), gn_t 105 (by decide +kernel) (by decide +kernel), by decide +kernel, by decide +kernel, by decide +kernel⟩
theorem mv_X0_canMeet : gn_Mv yX0_canMeet := ⟨gn_t 452 (by decide +kernel) (by decide +kernel), gn_t 22 (by decide +kernel) (by decide +kernel)⟩
theorem my_X0_spare : gn_My yX0_spare cX0_spare 1 (some .int) 0 := ⟨gn_t 457 (by decide +kernel) (by decide +kernel), gn_t 105 (by decide +kernel) (by decide +kernel), by decide +kernel, by decide +kernel, by decide +kernel⟩
theorem mv_X0_spare : gn_Mv yX0_spare := ⟨gn_t 456 (by decide +kernel) (by decide +kernel), gn_t 23 (by decide +kernel) (by decide +kernel)⟩
theorem ml_X0_91 : Cond.methodLink RX0 91 yJ6_bitCount_0f7a4 ∈ gn_T := gn_t 462 (by decide +kernel) (by decide +kernel)
theorem my_X0_tellings : gn_My yX0_tellings cX0_tellings 3 (some .int) 0 := ⟨gn_t 461 (by decide +kernel) (by decide +kernel), gn_t 105 (by decide +kernel) (by decide +kernel), by decide +kernel, by decide +kernel, by decide +kernel⟩
theorem mv_X0_tellings : gn_Mv yX0_tellings := ⟨gn_t 460 (by decide +kernel) (by decide +kernel), gn_t 24 (by decide +kernel) (by decide +kernel)⟩
theorem my_X0_meetAside : gn_My yX0_meetAside cX0_meetAside 7 none 4 := ⟨gn_t 471 (by decide +kernel) (by decide +kernel), gn_t 105 (by decide +kernel) (by decide +kernel), by decide +kernel, by decide +kernel, by decide +kernel⟩
theorem mv_X0_meetAside : gn_Mv yX0_meetAside := ⟨gn_t 470 (by decide +kernel) (by decide +kernel), gn_t 26 (by decide +kernel) (by decide +kernel)⟩
theorem ml_X0_77 : Cond.methodLink RX0 77 yX0_numbers ∈ gn_T := gn_t 467 (by decide +kernel) (by decide +kernel)
theorem fl_X0_27 : Cond.fieldLink RX0 27 RX0 (TX0 5).2.1 (TX0 5).2.2.1 ∈ gn_T := gn_t 159 (by decide +kernel) (by decide +kernel)
theorem q_7_5 : gn_Fd 7 0 5 (.inl 32) RX0 TX0 11 tyX0 := ⟨rfl, cw_X0, tyX0_ok, nmX0, ⟨_, rfl, rfl⟩, by decide, rfl⟩
theorem gk_b_100 : (Int8.ofInt (100)).toInt32 = (100 : Int32) := by decide +kernel
theorem s_32 : gn_S[32]? = some (.inl (0, 40)) := rfl
theorem ml_X0_80 : Cond.methodLink RX0 80 yX0_meetAside ∈ gn_T := gn_t 468 (by decide +kernel) (by decide +kernel)
theorem ml_X0_84 : Cond.methodLink RX0 84 yX0_tellingOf ∈ gn_T := gn_t 472 (by decide +kernel) (by decide +kernel)
theorem my_X0_add : gn_My yX0_add cX0_add 4 none 3 := ⟨gn_t 466 (by decide +kernel) (by decide +kernel), gn_t 105 (by decide +kernel) (by decide +kernel), by decide +kernel, by decide +kernel, by decide +kernel⟩
theorem mv_X0_add : gn_Mv yX0_add := ⟨gn_t 465 (by decide +kernel) (by decide +kernel), gn_t 25 (by decide +kernel) (by decide +kernel)⟩
theorem ml_X3_162 : Cond.methodLinkNest RX3 162 yX0_canMeet "GateNames" ∈ gn_N := gn_nn 450 (by decide +kernel) (by decide +kernel)
theorem ml_X3_166 : Cond.methodLinkNest RX3 166 yX0_spare "GateNames" ∈ gn_N := gn_nn 454 (by decide +kernel) (by decide +kernel)
theorem gk_b_m2 : (Int8.ofInt (-2)).toInt32 = (-2 : Int32) := by decide +kernel
theorem ml_X3_169 : Cond.methodLinkNest RX3 169 yX0_tellings "GateNames" ∈ gn_N := gn_nn 458 (by decide +kernel) (by decide +kernel)
theorem ml_X3_172 : Cond.methodLinkNest RX3 172 yX0_add "GateNames" ∈ gn_N := gn_nn 463 (by decide +kernel) (by decide +kernel)
theorem my_X3_meet : gn_My yX3_meet cX3_meet 4 (some .int) 2 := ⟨gn_t 449 (by decide +kernel) (by decide +kernel), gn_t 102 (by decide +kernel) (by decide +kernel), by decide +kernel, by decide +kernel, by decide +kernel⟩
theorem mv_X3_meet : gn_Mv yX3_meet := ⟨gn_t 447 (by decide +kernel) (by decide +kernel), gn_t 448 (by decide +kernel) (by decide +kernel)⟩
theorem my_X4_begin : gn_My yX4_begin cX4_begin 2 none 0 := ⟨gn_t 981 (by decide +kernel) (by decide +kernel), gn_t 107 (by decide +kernel) (by decide +kernel), by decide +kernel, by decide +kernel, by decide +kernel⟩
theorem mv_X4_begin : gn_Mv yX4_begin := ⟨gn_t 980 (by decide +kernel) (by decide +kernel), gn_t 78 (by decide +kernel) (by decide +kernel)⟩
theorem my_X4_tell : gn_My yX4_tell cX4_tell 5 (some .int) 2 := ⟨gn_t 989 (by decide +kernel) (by decide +kernel), gn_t 107 (by decide +kernel) (by decide +kernel), by decide +kernel, by decide +kernel, by decide +kernel⟩
theorem mv_X4_tell : gn_Mv yX4_tell := ⟨gn_t 988 (by decide +kernel) (by decide +kernel), gn_t 80 (by decide +kernel) (by decide +kernel)⟩
theorem ml_X4_159 : Cond.methodLink RX4 159 yX4_tell ∈ gn_T := gn_t 986 (by decide +kernel) (by decide +kernel)
theorem my_X4_meetNow : gn_My yX4_meetNow cX4_meetNow 5 (some .int) 2 := ⟨gn_t 985 (by decide +kernel) (by decide +kernel), gn_t 107 (by decide +kernel) (by decide +kernel), by decide +kernel, by decide +kernel, by decide +kernel⟩
theorem mv_X4_meetNow : gn_Mv yX4_meetNow := ⟨gn_t 984 (by decide +kernel) (by decide +kernel), gn_t 79 (by decide +kernel) (by decide +kernel)⟩
theorem ml_X4_162 : Cond.methodLink RX4 162 yX4_begin ∈ gn_T := gn_t 978 (by decide +kernel) (by decide +kernel)
theorem ml_X4_165 : Cond.methodLink RX4 165 yX4_meetNow ∈ gn_T := gn_t 982 (by decide +kernel) (by decide +kernel)
theorem my_X4_meet : gn_My yX4_meet cX4_meet 3 (some .int) 2 := ⟨gn_t 977 (by decide +kernel) (by decide +kernel), gn_t 107 (by decide +kernel) (by decide +kernel), by decide +kernel, by decide +kernel, by decide +kernel⟩
theorem mv_X4_meet : gn_Mv yX4_meet := ⟨gn_t 975 (by decide +kernel) (by decide +kernel), gn_t 976 (by decide +kernel) (by decide +kernel)⟩
theorem my_X3_refusalAtStone : gn_My yX3_refusalAtStone cX3_refusalAtStone 2 (some .int) 1 := ⟨gn_t 480 (by decide +kernel) (by decide +kernel), gn_t 102 (by decide +kernel) (by decide +kernel), by decide +kernel, by decide +kernel, by decide +kernel⟩
theorem mv_X3_refusalAtStone : gn_Mv yX3_refusalAtStone := ⟨gn_t 479 (by decide +kernel) (by decide +kernel), gn_t 27 (by decide +kernel) (by decide +kernel)⟩
theorem ml_X3_176 : Cond.methodLink RX3 176 yX3_refusalAtStone ∈ gn_T := gn_t 477 (by decide +kernel) (by decide +kernel)
theorem fl_X3_179 : Cond.fieldLinkNest RX3 179 RX0 (TX0 10).2.1 (TX0 10).2.2.1 "GateNames" ∈ gn_N := gn_nn 172 (by decide +kernel) (by decide +kernel)
theorem my_X3_card : gn_My yX3_card cX3_card 3 (some .int) 1 := ⟨gn_t 476 (by decide +kernel) (by decide +kernel), gn_t 102 (by decide +kernel) (by decide +kernel), by decide +kernel, by decide +kernel, by decide +kernel⟩
theorem mv_X3_card : gn_Mv yX3_card := ⟨gn_t 474 (by decide +kernel) (by decide +kernel), gn_t 475 (by decide +kernel) (by decide +kernel)⟩
theorem my_X4_card : gn_My yX4_card cX4_card 2 (some .int) 1 := ⟨gn_t 993 (by decide +kernel) (by decide +kernel), gn_t 107 (by decide +kernel) (by decide +kernel), by decide +kernel, by decide +kernel, by decide +kernel⟩
theorem mv_X4_card : gn_Mv yX4_card := ⟨gn_t 991 (by decide +kernel) (by decide +kernel), gn_t 992 (by decide +kernel) (by decide +kernel)⟩
theorem my_X3_reads : gn_My yX3_reads cX3_reads 4 (some .int) 1 := ⟨gn_t 484 (by decide +kernel) (by decide +kernel), gn_t 102 (by decide +kernel) (by decide +kernel), by decide +kernel, by decide +kernel, by decide +kernel⟩
theorem mv_X3_reads : gn_Mv yX3_reads := ⟨gn_t 482 (by decide +kernel) (by decide +kernel), gn_t 483 (by decide +kernel) (by decide +kernel)⟩
theorem my_X4_reads : gn_My yX4_reads cX4_reads 2 (some .int) 1 := ⟨gn_t 997 (by decide +kernel) (by decide +kernel), gn_t 107 (by decide +kernel) (by decide +kernel), by decide +kernel, by decide +kernel, by decide +kernel⟩
theorem mv_X4_reads : gn_Mv yX4_reads := ⟨gn_t 995 (by decide +kernel) (by decide +kernel), gn_t 996 (by decide +kernel) (by decide +kernel)⟩
theorem fl_X3_185 : Cond.fieldLinkNest RX3 185 RX0 (TX0 8).2.1 (TX0 8).2.2.1 "GateNames" ∈ gn_N := gn_nn 167 (by decide +kernel) (by decide +kernel)
theorem my_X3_go : gn_My yX3_go cX3_go 2 (some .int) 1 := ⟨gn_t 488 (by decide +kernel) (by decide +kernel), gn_t 102 (by decide +kernel) (by decide +kernel), by decide +kernel, by decide +kernel, by decide +kernel⟩
theorem mv_X3_go : gn_Mv yX3_go := ⟨gn_t 486 (by decide +kernel) (by decide +kernel), gn_t 487 (by decide +kernel) (by decide +kernel)⟩
theorem my_X4_goNow : gn_My yX4_goNow cX4_goNow 2 none 1 := ⟨gn_t 1005 (by decide +kernel) (by decide +kernel), gn_t 107 (by decide +kernel) (by decide +kernel), by decide +kernel, by decide +kernel, by decide +kernel⟩
theorem mv_X4_goNow : gn_Mv yX4_goNow := ⟨gn_t 1004 (by decide +kernel) (by decide +kernel), gn_t 81 (by decide +kernel) (by decide +kernel)⟩
theorem ml_X4_168 : Cond.methodLink RX4 168 yX4_goNow ∈ gn_T := gn_t 1002 (by decide +kernel) (by decide +kernel)
theorem my_X4_go : gn_My yX4_go cX4_go 2 (some .int) 1 := ⟨gn_t 1001 (by decide +kernel) (by decide +kernel), gn_t 107 (by decide +kernel) (by decide +kernel), by decide +kernel, by decide +kernel, by decide +kernel⟩
theorem mv_X4_go : gn_Mv yX4_go := ⟨gn_t 999 (by decide +kernel) (by decide +kernel), gn_t 1000 (by decide +kernel) (by decide +kernel)⟩
theorem ml_X0_73 : Cond.methodLink RX0 73 yX0_add ∈ gn_T := gn_t 497 (by decide +kernel) (by decide +kernel)
theorem my_X0_doAgain : gn_My yX0_doAgain cX0_doAgain 5 none 2 := ⟨gn_t 496 (by decide +kernel) (by decide +kernel), gn_t 105 (by decide +kernel) (by decide +kernel), by decide +kernel, by decide +kernel, by decide +kernel⟩
theorem mv_X0_doAgain : gn_Mv yX0_doAgain := ⟨gn_t 495 (by decide +kernel) (by decide +kernel), gn_t 28 (by decide +kernel) (by decide +kernel)⟩
theorem fl_X3_188 : Cond.fieldLinkNest RX3 188 RX0 (TX0 7).2.1 (TX0 7).2.2.1 "GateNames" ∈ gn_N := gn_nn 165 (by decide +kernel) (by decide +kernel)
theorem fl_X3_191 : Cond.fieldLinkNest RX3 191 RX0 (TX0 5).2.1 (TX0 5).2.2.1 "GateNames" ∈ gn_N := gn_nn 160 (by decide +kernel) (by decide +kernel)
theorem ml_X3_194 : Cond.methodLinkNest RX3 194 yX0_doAgain "GateNames" ∈ gn_N := gn_nn 493 (by decide +kernel) (by decide +kernel)
theorem my_X3_undo : gn_My yX3_undo cX3_undo 3 (some .int) 1 := ⟨gn_t 492 (by decide +kernel) (by decide +kernel), gn_t 102 (by decide +kernel) (by decide +kernel), by decide +kernel, by decide +kernel, by decide +kernel⟩
theorem mv_X3_undo : gn_Mv yX3_undo := ⟨gn_t 490 (by decide +kernel) (by decide +kernel), gn_t 491 (by decide +kernel) (by decide +kernel)⟩
theorem my_X4_undo : gn_My yX4_undo cX4_undo 3 (some .int) 1 := ⟨gn_t 1009 (by decide +kernel) (by decide +kernel), gn_t 107 (by decide +kernel) (by decide +kernel), by decide +kernel, by decide +kernel, by decide +kernel⟩
theorem mv_X4_undo : gn_Mv yX4_undo := ⟨gn_t 1007 (by decide +kernel) (by decide +kernel), gn_t 1008 (by decide +kernel) (by decide +kernel)⟩
theorem fl_X3_37 : Cond.fieldLink RX3 37 RX3 (TX3 4).2.1 (TX3 4).2.2.1 ∈ gn_T := gn_t 235 (by decide +kernel) (by decide +kernel)
theorem q_0_4 : gn_Fd 0 3 4 (.inl 9) RX3 TX3 13 tyX3 := ⟨rfl, cw_X3, tyX3_ok, nmX3, ⟨_, rfl, rfl⟩, by decide, rfl⟩
theorem ra_9 : gn_S[9]? = some (.inr (.inl [20, 21, 22])) ∧ ([20, 21, 22] : List Nat).length = 3 ∧ (∀ j, j < 3 → ([20, 21, 22] : List Nat)[j]? = some (20 + j)) ∧ ∀ j, j < 3 → gn_S[20 + j]? = some (.inl (0, 40)) := ⟨rfl, rfl, fun j hj => by rcases (show j = 0 ∨ j = 1 ∨ j = 2 by omega) with rfl | rfl | rfl <;> rfl, fun j hj => by rcases (show j = 0 ∨ j = 1 ∨ j = 2 by omega) with rfl | rfl | rfl <;> rfl⟩
theorem my_X3_keep : gn_My yX3_keep cX3_keep 2 (some .int) 1 := ⟨gn_t 501 (by decide +kernel) (by decide +kernel), gn_t 102 (by decide +kernel) (by decide +kernel), by decide +kernel, by decide +kernel, by decide +kernel⟩
theorem mv_X3_keep : gn_Mv yX3_keep := ⟨gn_t 499 (by decide +kernel) (by decide +kernel), gn_t 500 (by decide +kernel) (by decide +kernel)⟩
theorem gk_s_410 : (Int16.ofInt (410)).toInt32 = (410 : Int32) := by decide +kernel
theorem fl_X4_45 : Cond.fieldLink RX4 45 RX4 (TX4 17).2.1 (TX4 17).2.2.1 ∈ gn_T := gn_t 783 (by decide +kernel) (by decide +kernel)
theorem q_38_17 : gn_Fd 38 4 17 (.inl 49) RX4 TX4 24 tyX4 := ⟨rfl, cw_X4, tyX4_ok, nmX4, ⟨_, rfl, rfl⟩, by decide, rfl⟩
theorem s_49 : gn_S[49]? = some (.inl (0, 1230)) := rfl
theorem my_X4_keep : gn_My yX4_keep cX4_keep 3 (some .int) 1 := ⟨gn_t 1013 (by decide +kernel) (by decide +kernel), gn_t 107 (by decide +kernel) (by decide +kernel), by decide +kernel, by decide +kernel, by decide +kernel⟩
theorem mv_X4_keep : gn_Mv yX4_keep := ⟨gn_t 1011 (by decide +kernel) (by decide +kernel), gn_t 1012 (by decide +kernel) (by decide +kernel)⟩
theorem my_X3_on : gn_My yX3_on cX3_on 2 (some .int) 1 := ⟨gn_t 505 (by decide +kernel) (by decide +kernel), gn_t 102 (by decide +kernel) (by decide +kernel), by decide +kernel, by decide +kernel, by decide +kernel⟩
theorem mv_X3_on : gn_Mv yX3_on := ⟨gn_t 503 (by decide +kernel) (by decide +kernel), gn_t 504 (by decide +kernel) (by decide +kernel)⟩
theorem my_X4_on : gn_My yX4_on cX4_on 3 (some .int) 1 := ⟨gn_t 1017 (by decide +kernel) (by decide +kernel), gn_t 107 (by decide +kernel) (by decide +kernel), by decide +kernel, by decide +kernel, by decide +kernel⟩
theorem mv_X4_on : gn_Mv yX4_on := ⟨gn_t 1015 (by decide +kernel) (by decide +kernel), gn_t 1016 (by decide +kernel) (by decide +kernel)⟩
theorem ml_X0_100 : Cond.methodLink RX0 100 yX0_opensTo ∈ gn_T := gn_t 514 (by decide +kernel) (by decide +kernel)
theorem my_X0_opened : gn_My yX0_opened cX0_opened 3 (some .int) 0 := ⟨gn_t 513 (by decide +kernel) (by decide +kernel), gn_t 105 (by decide +kernel) (by decide +kernel), by decide +kernel, by decide +kernel, by decide +kernel⟩
theorem mv_X0_opened : gn_Mv yX0_opened := ⟨gn_t 512 (by decide +kernel) (by decide +kernel), gn_t 29 (by decide +kernel) (by decide +kernel)⟩
theorem fl_X3_197 : Cond.fieldLinkNest RX3 197 RX0 (TX0 9).2.1 (TX0 9).2.2.1 "GateNames" ∈ gn_N := gn_nn 170 (by decide +kernel) (by decide +kernel)
theorem ml_X3_200 : Cond.methodLinkNest RX3 200 yX0_opened "GateNames" ∈ gn_N := gn_nn 510 (by decide +kernel) (by decide +kernel)
theorem my_X3_open : gn_My yX3_open cX3_open 2 (some .int) 0 := ⟨gn_t 509 (by decide +kernel) (by decide +kernel), gn_t 102 (by decide +kernel) (by decide +kernel), by decide +kernel, by decide +kernel, by decide +kernel⟩
theorem mv_X3_open : gn_Mv yX3_open := ⟨gn_t 507 (by decide +kernel) (by decide +kernel), gn_t 508 (by decide +kernel) (by decide +kernel)⟩
theorem my_X4_openTo : gn_My yX4_openTo cX4_openTo 3 (some .int) 0 := ⟨gn_t 1025 (by decide +kernel) (by decide +kernel), gn_t 107 (by decide +kernel) (by decide +kernel), by decide +kernel, by decide +kernel, by decide +kernel⟩
theorem mv_X4_openTo : gn_Mv yX4_openTo := ⟨gn_t 1024 (by decide +kernel) (by decide +kernel), gn_t 82 (by decide +kernel) (by decide +kernel)⟩
theorem ml_X4_178 : Cond.methodLink RX4 178 yX4_openTo ∈ gn_T := gn_t 1022 (by decide +kernel) (by decide +kernel)
theorem my_X4_open : gn_My yX4_open cX4_open 3 (some .int) 0 := ⟨gn_t 1021 (by decide +kernel) (by decide +kernel), gn_t 107 (by decide +kernel) (by decide +kernel), by decide +kernel, by decide +kernel, by decide +kernel⟩
theorem mv_X4_open : gn_Mv yX4_open := ⟨gn_t 1019 (by decide +kernel) (by decide +kernel), gn_t 1020 (by decide +kernel) (by decide +kernel)⟩
theorem fl_X1_44 : Cond.fieldLinkNest RX1 44 RX0 (TX0 6).2.1 (TX0 6).2.2.1 "GateNames" ∈ gn_N := gn_nn 162 (by decide +kernel) (by decide +kernel)
theorem fl_X1_27 : Cond.fieldLink RX1 27 RX1 (TX1 5).2.1 (TX1 5).2.2.1 ∈ gn_T := gn_t 208 (by decide +kernel) (by decide +kernel)
theorem q_8_5 : gn_Fd 8 1 5 (.inr false) RX1 TX1 8 tyX1 := ⟨rfl, cw_X1, tyX1_ok, nmX1, ⟨_, rfl, rfl⟩, by decide, rfl⟩
theorem ml_X1_47 : Cond.methodLinkNest RX1 47 yX0_left "GateNames" ∈ gn_N := gn_nn 527 (by decide +kernel) (by decide +kernel)
theorem fl_X1_31 : Cond.fieldLink RX1 31 RX1 (TX1 6).2.1 (TX1 6).2.2.1 ∈ gn_T := gn_t 209 (by decide +kernel) (by decide +kernel)
theorem q_8_6 : gn_Fd 8 1 6 (.inr false) RX1 TX1 8 tyX1 := ⟨rfl, cw_X1, tyX1_ok, nmX1, ⟨_, rfl, rfl⟩, by decide, rfl⟩
theorem fl_X1_9 : Cond.fieldLink RX1 9 RX1 (TX1 0).2.1 (TX1 0).2.2.1 ∈ gn_T := gn_t 202 (by decide +kernel) (by decide +kernel)
theorem q_8_0 : gn_Fd 8 1 0 (.inl 33) RX1 TX1 8 tyX1 := ⟨rfl, cw_X1, tyX1_ok, nmX1, ⟨_, rfl, rfl⟩, by decide, rfl⟩
theorem ml_X1_50 : Cond.methodLink RX1 50 yJ7_fill_53178 ∈ gn_T := gn_t 528 (by decide +kernel) (by decide +kernel)
theorem s_33 : gn_S[33]? = some (.inl (0, 7)) := rfl
theorem ml_X1_56 : Cond.methodLinkNest RX1 56 yX0_naming "GateNames" ∈ gn_N := gn_nn 529 (by decide +kernel) (by decide +kernel)
theorem ml_X1_60 : Cond.methodLinkNest RX1 60 yX3_isIn "GateNames" ∈ gn_N := gn_nn 530 (by decide +kernel) (by decide +kernel)
theorem fl_X1_64 : Cond.fieldLinkNest RX1 64 RX0 (TX0 9).2.1 (TX0 9).2.2.1 "GateNames" ∈ gn_N := gn_nn 169 (by decide +kernel) (by decide +kernel)
theorem fl_X1_34 : Cond.fieldLink RX1 34 RX1 (TX1 7).2.1 (TX1 7).2.2.1 ∈ gn_T := gn_t 211 (by decide +kernel) (by decide +kernel)
theorem q_8_7 : gn_Fd 8 1 7 (.inr false) RX1 TX1 8 tyX1 := ⟨rfl, cw_X1, tyX1_ok, nmX1, ⟨_, rfl, rfl⟩, by decide, rfl⟩
theorem my_X1_look : gn_My yX1_look cX1_look 6 none 2 := ⟨gn_t 526 (by decide +kernel) (by decide +kernel), gn_t 106 (by decide +kernel) (by decide +kernel), by decide +kernel, by decide +kernel, by decide +kernel⟩
theorem mv_X1_look : gn_Mv yX1_look := ⟨gn_t 525 (by decide +kernel) (by decide +kernel), gn_t 31 (by decide +kernel) (by decide +kernel)⟩
theorem pl_X1 : plainName RX1 = true := by decide +kernel
theorem my_X1_within : gn_My yX1_within cX1_within 2 (some .boolean) 1 := ⟨gn_t 538 (by decide +kernel) (by decide +kernel), gn_t 106 (by decide +kernel) (by decide +kernel), by decide +kernel, by decide +kernel, by decide +kernel⟩
theorem mv_X1_within : gn_Mv yX1_within := ⟨gn_t 537 (by decide +kernel) (by decide +kernel), gn_t 33 (by decide +kernel) (by decide +kernel)⟩
theorem fl_X1_15 : Cond.fieldLink RX1 15 RX1 (TX1 1).2.1 (TX1 1).2.2.1 ∈ gn_T := gn_t 203 (by decide +kernel) (by decide +kernel)
theorem q_8_1 : gn_Fd 8 1 1 (.inl 34) RX1 TX1 8 tyX1 := ⟨rfl, cw_X1, tyX1_ok, nmX1, ⟨_, rfl, rfl⟩, by decide, rfl⟩
theorem s_34 : gn_S[34]? = some (.inl (0, 128)) := rfl
theorem my_X1_startersOf : gn_My yX1_startersOf cX1_startersOf 5 (some .int) 1 := ⟨gn_t 542 (by decide +kernel) (by decide +kernel), gn_t 106 (by decide +kernel) (by decide +kernel), by decide +kernel, by decide +kernel, by decide +kernel⟩
theorem mv_X1_startersOf : gn_Mv yX1_startersOf := ⟨gn_t 541 (by decide +kernel) (by decide +kernel), gn_t 34 (by decide +kernel) (by decide +kernel)⟩
theorem ml_X1_73 : Cond.methodLink RX1 73 yX1_within ∈ gn_T := gn_t 535 (by decide +kernel) (by decide +kernel)
theorem ob_8 : gn_Ob 8 RX1 := ⟨1, _, _, _, rfl, rfl⟩
theorem ml_X1_77 : Cond.methodLink RX1 77 yX1_startersOf ∈ gn_T := gn_t 539 (by decide +kernel) (by decide +kernel)
theorem my_X1_chain : gn_My yX1_chain cX1_chain 2 none 0 := ⟨gn_t 534 (by decide +kernel) (by decide +kernel), gn_t 106 (by decide +kernel) (by decide +kernel), by decide +kernel, by decide +kernel, by decide +kernel⟩
theorem mv_X1_chain : gn_Mv yX1_chain := ⟨gn_t 533 (by decide +kernel) (by decide +kernel), gn_t 32 (by decide +kernel) (by decide +kernel)⟩
theorem ml_X1_37 : Cond.methodLink RX1 37 yX1_look ∈ gn_T := gn_t 523 (by decide +kernel) (by decide +kernel)
theorem ml_X1_41 : Cond.methodLink RX1 41 yX1_chain ∈ gn_T := gn_t 531 (by decide +kernel) (by decide +kernel)
theorem my_X1_survey : gn_My yX1_survey cX1_survey 3 none 2 := ⟨gn_t 522 (by decide +kernel) (by decide +kernel), gn_t 106 (by decide +kernel) (by decide +kernel), by decide +kernel, by decide +kernel, by decide +kernel⟩
theorem mv_X1_survey : gn_Mv yX1_survey := ⟨gn_t 521 (by decide +kernel) (by decide +kernel), gn_t 30 (by decide +kernel) (by decide +kernel)⟩
theorem my_X1_comesThrough : gn_My yX1_comesThrough cX1_comesThrough 2 (some .boolean) 1 := ⟨gn_t 550 (by decide +kernel) (by decide +kernel), gn_t 106 (by decide +kernel) (by decide +kernel), by decide +kernel, by decide +kernel, by decide +kernel⟩
theorem mv_X1_comesThrough : gn_Mv yX1_comesThrough := ⟨gn_t 549 (by decide +kernel) (by decide +kernel), gn_t 36 (by decide +kernel) (by decide +kernel)⟩
theorem fl_X1_18 : Cond.fieldLink RX1 18 RX1 (TX1 2).2.1 (TX1 2).2.2.1 ∈ gn_T := gn_t 204 (by decide +kernel) (by decide +kernel)
theorem q_8_2 : gn_Fd 8 1 2 (.inl 35) RX1 TX1 8 tyX1 := ⟨rfl, cw_X1, tyX1_ok, nmX1, ⟨_, rfl, rfl⟩, by decide, rfl⟩
theorem s_35 : gn_S[35]? = some (.inl (0, 128)) := rfl
theorem ml_X1_86 : Cond.methodLink RX1 86 Lib.Math.max.name ∈ gn_T := gn_t 556 (by decide +kernel) (by decide +kernel)
theorem w_max : Cond.static Lib.Math.max.name ∈ gn_T ∧ Cond.initialized "java/lang/Math" ∈ gn_T ∧ Cond.code Lib.Math.max.name Lib.Math.max.code 2 (some .int) ∈ gn_T := ⟨gn_t 557 (by decide +kernel) (by decide +kernel), gn_t 110 (by decide +kernel) (by decide +kernel), gn_t 558 (by decide +kernel) (by decide +kernel)⟩
theorem my_X1_bestWithoutOne : gn_My yX1_bestWithoutOne cX1_bestWithoutOne 4 (some .int) 1 := ⟨gn_t 555 (by decide +kernel) (by decide +kernel), gn_t 106 (by decide +kernel) (by decide +kernel), by decide +kernel, by decide +kernel, by decide +kernel⟩
theorem mv_X1_bestWithoutOne : gn_Mv yX1_bestWithoutOne := ⟨gn_t 554 (by decide +kernel) (by decide +kernel), gn_t 37 (by decide +kernel) (by decide +kernel)⟩
theorem ml_X1_80 : Cond.methodLink RX1 80 yX1_comesThrough ∈ gn_T := gn_t 547 (by decide +kernel) (by decide +kernel)
theorem ml_X1_83 : Cond.methodLink RX1 83 yX1_bestWithoutOne ∈ gn_T := gn_t 552 (by decide +kernel) (by decide +kernel)
theorem ml_X1_67 : Cond.methodLink RX1 67 yJ6_bitCount_0f7a4 ∈ gn_T := gn_t 551 (by decide +kernel) (by decide +kernel)
theorem my_X1_rank : gn_My yX1_rank cX1_rank 2 none 0 := ⟨gn_t 546 (by decide +kernel) (by decide +kernel), gn_t 106 (by decide +kernel) (by decide +kernel), by decide +kernel, by decide +kernel, by decide +kernel⟩
theorem mv_X1_rank : gn_Mv yX1_rank := ⟨gn_t 545 (by decide +kernel) (by decide +kernel), gn_t 35 (by decide +kernel) (by decide +kernel)⟩
theorem my_X1_firstsOf : gn_My yX1_firstsOf cX1_firstsOf 5 (some .int) 2 := ⟨gn_t 566 (by decide +kernel) (by decide +kernel), gn_t 106 (by decide +kernel) (by decide +kernel), by decide +kernel, by decide +kernel, by decide +kernel⟩
theorem mv_X1_firstsOf : gn_Mv yX1_firstsOf := ⟨gn_t 565 (by decide +kernel) (by decide +kernel), gn_t 39 (by decide +kernel) (by decide +kernel)⟩
theorem kc_J6_264 : Cond.constant RJ6 264 (65536) ∈ gn_T := gn_t 570 (by decide +kernel) (by decide +kernel)
theorem gk_i_16 : Int32.ofInt (16) = (16 : Int32) := by decide +kernel
theorem gk_s_256 : (Int16.ofInt (256)).toInt32 = (256 : Int32) := by decide +kernel
theorem gk_i_8 : Int32.ofInt (8) = (8 : Int32) := by decide +kernel
theorem my_J6_numberOfTrailingZeros_0f7a4 : gn_My yJ6_numberOfTrailingZeros_0f7a4 cJ6_numberOfTrailingZeros_0f7a4 2 (some .int) 1 := ⟨gn_t 569 (by decide +kernel) (by decide +kernel), gn_t 109 (by decide +kernel) (by decide +kernel), by decide +kernel, by decide +kernel, by decide +kernel⟩
theorem ms_J6_numberOfTrailingZeros_0f7a4 : Cond.static yJ6_numberOfTrailingZeros_0f7a4 ∈ gn_T := gn_t 568 (by decide +kernel) (by decide +kernel)
theorem ml_X1_92 : Cond.methodLink RX1 92 yX1_firstsOf ∈ gn_T := gn_t 563 (by decide +kernel) (by decide +kernel)
theorem ml_X1_95 : Cond.methodLink RX1 95 yJ6_numberOfTrailingZeros_0f7a4 ∈ gn_T := gn_t 567 (by decide +kernel) (by decide +kernel)
theorem my_X1_writeFirstRow : gn_My yX1_writeFirstRow cX1_writeFirstRow 7 none 2 := ⟨gn_t 562 (by decide +kernel) (by decide +kernel), gn_t 106 (by decide +kernel) (by decide +kernel), by decide +kernel, by decide +kernel, by decide +kernel⟩
theorem mv_X1_writeFirstRow : gn_Mv yX1_writeFirstRow := ⟨gn_t 561 (by decide +kernel) (by decide +kernel), gn_t 38 (by decide +kernel) (by decide +kernel)⟩
theorem fl_X3_31 : Cond.fieldLink RX3 31 RX3 (TX3 3).2.1 (TX3 3).2.2.1 ∈ gn_T := gn_t 234 (by decide +kernel) (by decide +kernel)
theorem q_0_3 : gn_Fd 0 3 3 (.inl 8) RX3 TX3 13 tyX3 := ⟨rfl, cw_X3, tyX3_ok, nmX3, ⟨_, rfl, rfl⟩, by decide, rfl⟩
theorem ml_X3_206 : Cond.methodLinkNest RX3 206 yX1_survey "GateNames" ∈ gn_N := gn_nn 519 (by decide +kernel) (by decide +kernel)
theorem ml_X3_210 : Cond.methodLinkNest RX3 210 yX1_rank "GateNames" ∈ gn_N := gn_nn 543 (by decide +kernel) (by decide +kernel)
theorem fl_X3_213 : Cond.fieldLinkNest RX3 213 RX1 (TX1 2).2.1 (TX1 2).2.2.1 "GateNames" ∈ gn_N := gn_nn 205 (by decide +kernel) (by decide +kernel)
theorem fl_X3_216 : Cond.fieldLinkNest RX3 216 RX1 (TX1 6).2.1 (TX1 6).2.2.1 "GateNames" ∈ gn_N := gn_nn 210 (by decide +kernel) (by decide +kernel)
theorem ml_X3_221 : Cond.methodLinkNest RX3 221 yX1_writeFirstRow "GateNames" ∈ gn_N := gn_nn 559 (by decide +kernel) (by decide +kernel)
theorem my_X3_most : gn_My yX3_most cX3_most 3 (some .int) 1 := ⟨gn_t 518 (by decide +kernel) (by decide +kernel), gn_t 102 (by decide +kernel) (by decide +kernel), by decide +kernel, by decide +kernel, by decide +kernel⟩
theorem mv_X3_most : gn_Mv yX3_most := ⟨gn_t 516 (by decide +kernel) (by decide +kernel), gn_t 517 (by decide +kernel) (by decide +kernel)⟩
theorem fl_X4_51 : Cond.fieldLink RX4 51 RX4 (TX4 19).2.1 (TX4 19).2.2.1 ∈ gn_T := gn_t 785 (by decide +kernel) (by decide +kernel)
theorem q_38_19 : gn_Fd 38 4 19 (.inl 51) RX4 TX4 24 tyX4 := ⟨rfl, cw_X4, tyX4_ok, nmX4, ⟨_, rfl, rfl⟩, by decide, rfl⟩
theorem s_51 : gn_S[51]? = some (.inl (0, 7)) := rfl
theorem my_X4_tellNames : gn_My yX4_tellNames cX4_tellNames 2 none 0 := ⟨gn_t 1033 (by decide +kernel) (by decide +kernel), gn_t 107 (by decide +kernel) (by decide +kernel), by decide +kernel, by decide +kernel, by decide +kernel⟩
theorem mv_X4_tellNames : gn_Mv yX4_tellNames := ⟨gn_t 1032 (by decide +kernel) (by decide +kernel), gn_t 83 (by decide +kernel) (by decide +kernel)⟩
theorem my_X4_mayGo : gn_My yX4_mayGo cX4_mayGo 3 (some .boolean) 2 := ⟨gn_t 1041 (by decide +kernel) (by decide +kernel), gn_t 107 (by decide +kernel) (by decide +kernel), by decide +kernel, by decide +kernel, by decide +kernel⟩
theorem mv_X4_mayGo : gn_Mv yX4_mayGo := ⟨gn_t 1040 (by decide +kernel) (by decide +kernel), gn_t 85 (by decide +kernel) (by decide +kernel)⟩
theorem ml_X4_172 : Cond.methodLink RX4 172 yX4_mayGo ∈ gn_T := gn_t 1038 (by decide +kernel) (by decide +kernel)
theorem fl_X4_57 : Cond.fieldLink RX4 57 RX4 (TX4 21).2.1 (TX4 21).2.2.1 ∈ gn_T := gn_t 787 (by decide +kernel) (by decide +kernel)
theorem q_38_21 : gn_Fd 38 4 21 (.inl 53) RX4 TX4 24 tyX4 := ⟨rfl, cw_X4, tyX4_ok, nmX4, ⟨_, rfl, rfl⟩, by decide, rfl⟩
theorem s_53 : gn_S[53]? = some (.inl (0, 1024)) := rfl
theorem my_X4_tellMore : gn_My yX4_tellMore cX4_tellMore 7 none 0 := ⟨gn_t 1037 (by decide +kernel) (by decide +kernel), gn_t 107 (by decide +kernel) (by decide +kernel), by decide +kernel, by decide +kernel, by decide +kernel⟩
theorem mv_X4_tellMore : gn_Mv yX4_tellMore := ⟨gn_t 1036 (by decide +kernel) (by decide +kernel), gn_t 84 (by decide +kernel) (by decide +kernel)⟩
theorem ml_X4_181 : Cond.methodLink RX4 181 yX4_tellNames ∈ gn_T := gn_t 1030 (by decide +kernel) (by decide +kernel)
theorem ml_X4_184 : Cond.methodLink RX4 184 yX4_tellMore ∈ gn_T := gn_t 1034 (by decide +kernel) (by decide +kernel)
theorem ml_X4_187 : Cond.methodLink RX4 187 yX4_row ∈ gn_T := gn_t 1042 (by decide +kernel) (by decide +kernel)
theorem my_X4_most : gn_My yX4_most cX4_most 9 (some .int) 1 := ⟨gn_t 1029 (by decide +kernel) (by decide +kernel), gn_t 107 (by decide +kernel) (by decide +kernel), by decide +kernel, by decide +kernel, by decide +kernel⟩
theorem mv_X4_most : gn_Mv yX4_most := ⟨gn_t 1027 (by decide +kernel) (by decide +kernel), gn_t 1028 (by decide +kernel) (by decide +kernel)⟩
theorem my_X0_worthOf : gn_My yX0_worthOf cX0_worthOf 4 (some .int) 1 := ⟨gn_t 579 (by decide +kernel) (by decide +kernel), gn_t 105 (by decide +kernel) (by decide +kernel), by decide +kernel, by decide +kernel, by decide +kernel⟩
theorem mv_X0_worthOf : gn_Mv yX0_worthOf := ⟨gn_t 578 (by decide +kernel) (by decide +kernel), gn_t 40 (by decide +kernel) (by decide +kernel)⟩
theorem ml_X3_224 : Cond.methodLinkNest RX3 224 yX1_comesThrough "GateNames" ∈ gn_N := gn_nn 575 (by decide +kernel) (by decide +kernel)
theorem ml_X3_227 : Cond.methodLinkNest RX3 227 yX0_worthOf "GateNames" ∈ gn_N := gn_nn 576 (by decide +kernel) (by decide +kernel)
theorem my_X3_worth : gn_My yX3_worth cX3_worth 6 (some .int) 0 := ⟨gn_t 574 (by decide +kernel) (by decide +kernel), gn_t 102 (by decide +kernel) (by decide +kernel), by decide +kernel, by decide +kernel, by decide +kernel⟩
theorem mv_X3_worth : gn_Mv yX3_worth := ⟨gn_t 572 (by decide +kernel) (by decide +kernel), gn_t 573 (by decide +kernel) (by decide +kernel)⟩
theorem gk_s_896 : (Int16.ofInt (896)).toInt32 = (896 : Int32) := by decide +kernel
theorem fl_X4_54 : Cond.fieldLink RX4 54 RX4 (TX4 20).2.1 (TX4 20).2.2.1 ∈ gn_T := gn_t 786 (by decide +kernel) (by decide +kernel)
theorem q_38_20 : gn_Fd 38 4 20 (.inl 52) RX4 TX4 24 tyX4 := ⟨rfl, cw_X4, tyX4_ok, nmX4, ⟨_, rfl, rfl⟩, by decide, rfl⟩
theorem s_52 : gn_S[52]? = some (.inl (0, 896)) := rfl
theorem my_X4_tellWays : gn_My yX4_tellWays cX4_tellWays 6 none 0 := ⟨gn_t 1050 (by decide +kernel) (by decide +kernel), gn_t 107 (by decide +kernel) (by decide +kernel), by decide +kernel, by decide +kernel, by decide +kernel⟩
theorem mv_X4_tellWays : gn_Mv yX4_tellWays := ⟨gn_t 1049 (by decide +kernel) (by decide +kernel), gn_t 86 (by decide +kernel) (by decide +kernel)⟩
theorem my_X4_worthOf : gn_My yX4_worthOf cX4_worthOf 4 (some .int) 1 := ⟨gn_t 1054 (by decide +kernel) (by decide +kernel), gn_t 107 (by decide +kernel) (by decide +kernel), by decide +kernel, by decide +kernel, by decide +kernel⟩
theorem mv_X4_worthOf : gn_Mv yX4_worthOf := ⟨gn_t 1053 (by decide +kernel) (by decide +kernel), gn_t 87 (by decide +kernel) (by decide +kernel)⟩
theorem my_X4_ordersOf : gn_My yX4_ordersOf cX4_ordersOf 4 (some .int) 1 := ⟨gn_t 1058 (by decide +kernel) (by decide +kernel), gn_t 107 (by decide +kernel) (by decide +kernel), by decide +kernel, by decide +kernel, by decide +kernel⟩
theorem mv_X4_ordersOf : gn_Mv yX4_ordersOf := ⟨gn_t 1057 (by decide +kernel) (by decide +kernel), gn_t 88 (by decide +kernel) (by decide +kernel)⟩
theorem ml_X4_190 : Cond.methodLink RX4 190 yX4_tellWays ∈ gn_T := gn_t 1047 (by decide +kernel) (by decide +kernel)
theorem ml_X4_193 : Cond.methodLink RX4 193 yX4_worthOf ∈ gn_T := gn_t 1051 (by decide +kernel) (by decide +kernel)
theorem ml_X4_175 : Cond.methodLink RX4 175 yX4_ordersOf ∈ gn_T := gn_t 1055 (by decide +kernel) (by decide +kernel)
theorem my_X4_worth : gn_My yX4_worth cX4_worth 5 (some .int) 0 := ⟨gn_t 1046 (by decide +kernel) (by decide +kernel), gn_t 107 (by decide +kernel) (by decide +kernel), by decide +kernel, by decide +kernel, by decide +kernel⟩
theorem mv_X4_worth : gn_Mv yX4_worth := ⟨gn_t 1044 (by decide +kernel) (by decide +kernel), gn_t 1045 (by decide +kernel) (by decide +kernel)⟩
theorem fl_X1_24 : Cond.fieldLink RX1 24 RX1 (TX1 4).2.1 (TX1 4).2.2.1 ∈ gn_T := gn_t 207 (by decide +kernel) (by decide +kernel)
theorem q_8_4 : gn_Fd 8 1 4 (.inl 37) RX1 TX1 8 tyX1 := ⟨rfl, cw_X1, tyX1_ok, nmX1, ⟨_, rfl, rfl⟩, by decide, rfl⟩
theorem s_37 : gn_S[37]? = some (.inl (0, 896)) := rfl
theorem my_X1_waysFrom : gn_My yX1_waysFrom cX1_waysFrom 5 (some .int) 2 := ⟨gn_t 595 (by decide +kernel) (by decide +kernel), gn_t 106 (by decide +kernel) (by decide +kernel), by decide +kernel, by decide +kernel, by decide +kernel⟩
theorem mv_X1_waysFrom : gn_Mv yX1_waysFrom := ⟨gn_t 594 (by decide +kernel) (by decide +kernel), gn_t 43 (by decide +kernel) (by decide +kernel)⟩
theorem ml_X1_102 : Cond.methodLink RX1 102 yX1_waysFrom ∈ gn_T := gn_t 592 (by decide +kernel) (by decide +kernel)
theorem my_X1_countWays : gn_My yX1_countWays cX1_countWays 4 none 1 := ⟨gn_t 591 (by decide +kernel) (by decide +kernel), gn_t 106 (by decide +kernel) (by decide +kernel), by decide +kernel, by decide +kernel, by decide +kernel⟩
theorem mv_X1_countWays : gn_Mv yX1_countWays := ⟨gn_t 590 (by decide +kernel) (by decide +kernel), gn_t 42 (by decide +kernel) (by decide +kernel)⟩
theorem ml_X1_98 : Cond.methodLink RX1 98 yX1_countWays ∈ gn_T := gn_t 588 (by decide +kernel) (by decide +kernel)
theorem my_X1_ordersOfAll : gn_My yX1_ordersOfAll cX1_ordersOfAll 2 (some .int) 0 := ⟨gn_t 587 (by decide +kernel) (by decide +kernel), gn_t 106 (by decide +kernel) (by decide +kernel), by decide +kernel, by decide +kernel, by decide +kernel⟩
theorem mv_X1_ordersOfAll : gn_Mv yX1_ordersOfAll := ⟨gn_t 586 (by decide +kernel) (by decide +kernel), gn_t 41 (by decide +kernel) (by decide +kernel)⟩
theorem ml_X3_230 : Cond.methodLinkNest RX3 230 yX1_ordersOfAll "GateNames" ∈ gn_N := gn_nn 584 (by decide +kernel) (by decide +kernel)
theorem my_X3_orders : gn_My yX3_orders cX3_orders 1 (some .int) 0 := ⟨gn_t 583 (by decide +kernel) (by decide +kernel), gn_t 102 (by decide +kernel) (by decide +kernel), by decide +kernel, by decide +kernel, by decide +kernel⟩
theorem mv_X3_orders : gn_Mv yX3_orders := ⟨gn_t 581 (by decide +kernel) (by decide +kernel), gn_t 582 (by decide +kernel) (by decide +kernel)⟩
theorem my_X4_orders : gn_My yX4_orders cX4_orders 1 (some .int) 0 := ⟨gn_t 1062 (by decide +kernel) (by decide +kernel), gn_t 107 (by decide +kernel) (by decide +kernel), by decide +kernel, by decide +kernel, by decide +kernel⟩
theorem mv_X4_orders : gn_Mv yX4_orders := ⟨gn_t 1060 (by decide +kernel) (by decide +kernel), gn_t 1061 (by decide +kernel) (by decide +kernel)⟩
theorem my_X1_mayAllCome : gn_My yX1_mayAllCome cX1_mayAllCome 3 (some .boolean) 0 := ⟨gn_t 608 (by decide +kernel) (by decide +kernel), gn_t 106 (by decide +kernel) (by decide +kernel), by decide +kernel, by decide +kernel, by decide +kernel⟩
theorem mv_X1_mayAllCome : gn_Mv yX1_mayAllCome := ⟨gn_t 607 (by decide +kernel) (by decide +kernel), gn_t 45 (by decide +kernel) (by decide +kernel)⟩
theorem ml_X3_321 : Cond.methodLinkNest RX3 321 yX1_look "GateNames" ∈ gn_N := gn_nn 604 (by decide +kernel) (by decide +kernel)
theorem ml_X3_324 : Cond.methodLinkNest RX3 324 yX1_mayAllCome "GateNames" ∈ gn_N := gn_nn 605 (by decide +kernel) (by decide +kernel)
theorem ml_X3_328 : Cond.methodLinkNest RX3 328 yX1_chain "GateNames" ∈ gn_N := gn_nn 609 (by decide +kernel) (by decide +kernel)
theorem my_X3_allCome : gn_My yX3_allCome cX3_allCome 2 (some .boolean) 1 := ⟨gn_t 603 (by decide +kernel) (by decide +kernel), gn_t 102 (by decide +kernel) (by decide +kernel), by decide +kernel, by decide +kernel, by decide +kernel⟩
theorem mv_X3_allCome : gn_Mv yX3_allCome := ⟨gn_t 602 (by decide +kernel) (by decide +kernel), gn_t 44 (by decide +kernel) (by decide +kernel)⟩
theorem ml_X3_331 : Cond.methodLinkNest RX3 331 yX0_meetAside "GateNames" ∈ gn_N := gn_nn 614 (by decide +kernel) (by decide +kernel)
theorem ml_X3_233 : Cond.methodLink RX3 233 yX3_allCome ∈ gn_T := gn_t 600 (by decide +kernel) (by decide +kernel)
theorem my_X3_firstMeeting : gn_My yX3_firstMeeting cX3_firstMeeting 5 (some .int) 2 := ⟨gn_t 613 (by decide +kernel) (by decide +kernel), gn_t 102 (by decide +kernel) (by decide +kernel), by decide +kernel, by decide +kernel, by decide +kernel⟩
theorem mv_X3_firstMeeting : gn_Mv yX3_firstMeeting := ⟨gn_t 612 (by decide +kernel) (by decide +kernel), gn_t 46 (by decide +kernel) (by decide +kernel)⟩
theorem fl_X3_44 : Cond.fieldLink RX3 44 RX3 (TX3 6).2.1 (TX3 6).2.2.1 ∈ gn_T := gn_t 237 (by decide +kernel) (by decide +kernel)
theorem q_0_6 : gn_Fd 0 3 6 (.inl 24) RX3 TX3 13 tyX3 := ⟨rfl, cw_X3, tyX3_ok, nmX3, ⟨_, rfl, rfl⟩, by decide, rfl⟩
theorem s_24 : gn_S[24]? = some (.inl (0, 7)) := rfl
theorem fl_X3_47 : Cond.fieldLink RX3 47 RX3 (TX3 7).2.1 (TX3 7).2.2.1 ∈ gn_T := gn_t 238 (by decide +kernel) (by decide +kernel)
theorem q_0_7 : gn_Fd 0 3 7 (.inl 25) RX3 TX3 13 tyX3 := ⟨rfl, cw_X3, tyX3_ok, nmX3, ⟨_, rfl, rfl⟩, by decide, rfl⟩
theorem ml_X3_237 : Cond.methodLink RX3 237 yX3_firstMeeting ∈ gn_T := gn_t 610 (by decide +kernel) (by decide +kernel)
theorem s_25 : gn_S[25]? = some (.inl (0, 7)) := rfl
theorem my_X3_firstTwoMeetings : gn_My yX3_firstTwoMeetings cX3_firstTwoMeetings 4 (some .int) 0 := ⟨gn_t 618 (by decide +kernel) (by decide +kernel), gn_t 102 (by decide +kernel) (by decide +kernel), by decide +kernel, by decide +kernel, by decide +kernel⟩
theorem mv_X3_firstTwoMeetings : gn_Mv yX3_firstTwoMeetings := ⟨gn_t 617 (by decide +kernel) (by decide +kernel), gn_t 47 (by decide +kernel) (by decide +kernel)⟩
theorem ml_X3_241 : Cond.methodLink RX3 241 yX3_firstTwoMeetings ∈ gn_T := gn_t 615 (by decide +kernel) (by decide +kernel)
theorem my_X3_meetings : gn_My yX3_meetings cX3_meetings 3 (some .int) 0 := ⟨gn_t 599 (by decide +kernel) (by decide +kernel), gn_t 102 (by decide +kernel) (by decide +kernel), by decide +kernel, by decide +kernel, by decide +kernel⟩
theorem mv_X3_meetings : gn_Mv yX3_meetings := ⟨gn_t 597 (by decide +kernel) (by decide +kernel), gn_t 598 (by decide +kernel) (by decide +kernel)⟩
theorem fl_X4_60 : Cond.fieldLink RX4 60 RX4 (TX4 22).2.1 (TX4 22).2.2.1 ∈ gn_T := gn_t 788 (by decide +kernel) (by decide +kernel)
theorem q_38_22 : gn_Fd 38 4 22 (.inl 54) RX4 TX4 24 tyX4 := ⟨rfl, cw_X4, tyX4_ok, nmX4, ⟨_, rfl, rfl⟩, by decide, rfl⟩
theorem s_54 : gn_S[54]? = some (.inl (0, 7)) := rfl
theorem my_X4_takeTold : gn_My yX4_takeTold cX4_takeTold 2 none 0 := ⟨gn_t 1070 (by decide +kernel) (by decide +kernel), gn_t 107 (by decide +kernel) (by decide +kernel), by decide +kernel, by decide +kernel, by decide +kernel⟩
theorem mv_X4_takeTold : gn_Mv yX4_takeTold := ⟨gn_t 1069 (by decide +kernel) (by decide +kernel), gn_t 89 (by decide +kernel) (by decide +kernel)⟩
theorem my_X4_canAll : gn_My yX4_canAll cX4_canAll 2 (some .boolean) 0 := ⟨gn_t 1074 (by decide +kernel) (by decide +kernel), gn_t 107 (by decide +kernel) (by decide +kernel), by decide +kernel, by decide +kernel, by decide +kernel⟩
theorem mv_X4_canAll : gn_Mv yX4_canAll := ⟨gn_t 1073 (by decide +kernel) (by decide +kernel), gn_t 90 (by decide +kernel) (by decide +kernel)⟩
theorem my_X4_areTwo : gn_My yX4_areTwo cX4_areTwo 4 (some .boolean) 1 := ⟨gn_t 1078 (by decide +kernel) (by decide +kernel), gn_t 107 (by decide +kernel) (by decide +kernel), by decide +kernel, by decide +kernel, by decide +kernel⟩
theorem mv_X4_areTwo : gn_Mv yX4_areTwo := ⟨gn_t 1077 (by decide +kernel) (by decide +kernel), gn_t 91 (by decide +kernel) (by decide +kernel)⟩
theorem my_X4_meetAside : gn_My yX4_meetAside cX4_meetAside 5 none 2 := ⟨gn_t 1082 (by decide +kernel) (by decide +kernel), gn_t 107 (by decide +kernel) (by decide +kernel), by decide +kernel, by decide +kernel, by decide +kernel⟩
theorem mv_X4_meetAside : gn_Mv yX4_meetAside := ⟨gn_t 1081 (by decide +kernel) (by decide +kernel), gn_t 92 (by decide +kernel) (by decide +kernel)⟩
theorem ml_X4_196 : Cond.methodLink RX4 196 yX4_takeTold ∈ gn_T := gn_t 1067 (by decide +kernel) (by decide +kernel)
theorem ml_X4_199 : Cond.methodLink RX4 199 yX4_canAll ∈ gn_T := gn_t 1071 (by decide +kernel) (by decide +kernel)
theorem gk_b_56 : (Int8.ofInt (56)).toInt32 = (56 : Int32) := by decide +kernel
theorem ml_X4_203 : Cond.methodLink RX4 203 yX4_areTwo ∈ gn_T := gn_t 1075 (by decide +kernel) (by decide +kernel)
theorem ml_X4_206 : Cond.methodLink RX4 206 yX4_meetAside ∈ gn_T := gn_t 1079 (by decide +kernel) (by decide +kernel)
theorem my_X4_meetings : gn_My yX4_meetings cX4_meetings 3 (some .int) 0 := ⟨gn_t 1066 (by decide +kernel) (by decide +kernel), gn_t 107 (by decide +kernel) (by decide +kernel), by decide +kernel, by decide +kernel, by decide +kernel⟩
theorem mv_X4_meetings : gn_Mv yX4_meetings := ⟨gn_t 1064 (by decide +kernel) (by decide +kernel), gn_t 1065 (by decide +kernel) (by decide +kernel)⟩
theorem my_X3_mostByCardOf : gn_My yX3_mostByCardOf cX3_mostByCardOf 5 (some .int) 1 := ⟨gn_t 626 (by decide +kernel) (by decide +kernel), gn_t 102 (by decide +kernel) (by decide +kernel), by decide +kernel, by decide +kernel, by decide +kernel⟩
theorem mv_X3_mostByCardOf : gn_Mv yX3_mostByCardOf := ⟨gn_t 625 (by decide +kernel) (by decide +kernel), gn_t 48 (by decide +kernel) (by decide +kernel)⟩
theorem my_X3_toldAside : gn_My yX3_toldAside cX3_toldAside 3 (some .int) 2 := ⟨gn_t 630 (by decide +kernel) (by decide +kernel), gn_t 102 (by decide +kernel) (by decide +kernel), by decide +kernel, by decide +kernel, by decide +kernel⟩
theorem mv_X3_toldAside : gn_Mv yX3_toldAside := ⟨gn_t 629 (by decide +kernel) (by decide +kernel), gn_t 49 (by decide +kernel) (by decide +kernel)⟩
theorem ml_X3_247 : Cond.methodLink RX3 247 yX3_mostByCardOf ∈ gn_T := gn_t 623 (by decide +kernel) (by decide +kernel)
theorem ml_X3_250 : Cond.methodLink RX3 250 yX3_toldAside ∈ gn_T := gn_t 627 (by decide +kernel) (by decide +kernel)
theorem my_X3_stone : gn_My yX3_stone cX3_stone 5 (some .int) 0 := ⟨gn_t 622 (by decide +kernel) (by decide +kernel), gn_t 102 (by decide +kernel) (by decide +kernel), by decide +kernel, by decide +kernel, by decide +kernel⟩
theorem mv_X3_stone : gn_Mv yX3_stone := ⟨gn_t 620 (by decide +kernel) (by decide +kernel), gn_t 621 (by decide +kernel) (by decide +kernel)⟩
theorem my_X4_mostOf : gn_My yX4_mostOf cX4_mostOf 5 (some .int) 1 := ⟨gn_t 1090 (by decide +kernel) (by decide +kernel), gn_t 107 (by decide +kernel) (by decide +kernel), by decide +kernel, by decide +kernel, by decide +kernel⟩
theorem mv_X4_mostOf : gn_Mv yX4_mostOf := ⟨gn_t 1089 (by decide +kernel) (by decide +kernel), gn_t 93 (by decide +kernel) (by decide +kernel)⟩
theorem ml_X4_210 : Cond.methodLink RX4 210 yX4_mostOf ∈ gn_T := gn_t 1087 (by decide +kernel) (by decide +kernel)
theorem my_X4_stone : gn_My yX4_stone cX4_stone 7 (some .int) 0 := ⟨gn_t 1086 (by decide +kernel) (by decide +kernel), gn_t 107 (by decide +kernel) (by decide +kernel), by decide +kernel, by decide +kernel, by decide +kernel⟩
theorem mv_X4_stone : gn_Mv yX4_stone := ⟨gn_t 1084 (by decide +kernel) (by decide +kernel), gn_t 1085 (by decide +kernel) (by decide +kernel)⟩
theorem my_X3_hold : gn_My yX3_hold cX3_hold 5 (some .int) 0 := ⟨gn_t 634 (by decide +kernel) (by decide +kernel), gn_t 102 (by decide +kernel) (by decide +kernel), by decide +kernel, by decide +kernel, by decide +kernel⟩
theorem mv_X3_hold : gn_Mv yX3_hold := ⟨gn_t 632 (by decide +kernel) (by decide +kernel), gn_t 633 (by decide +kernel) (by decide +kernel)⟩
theorem my_X4_hold : gn_My yX4_hold cX4_hold 5 (some .int) 0 := ⟨gn_t 1094 (by decide +kernel) (by decide +kernel), gn_t 107 (by decide +kernel) (by decide +kernel), by decide +kernel, by decide +kernel, by decide +kernel⟩
theorem mv_X4_hold : gn_Mv yX4_hold := ⟨gn_t 1092 (by decide +kernel) (by decide +kernel), gn_t 1093 (by decide +kernel) (by decide +kernel)⟩
theorem my_X3_last : gn_My yX3_last cX3_last 4 (some .int) 1 := ⟨gn_t 638 (by decide +kernel) (by decide +kernel), gn_t 102 (by decide +kernel) (by decide +kernel), by decide +kernel, by decide +kernel, by decide +kernel⟩
theorem mv_X3_last : gn_Mv yX3_last := ⟨gn_t 636 (by decide +kernel) (by decide +kernel), gn_t 637 (by decide +kernel) (by decide +kernel)⟩
theorem my_X4_last : gn_My yX4_last cX4_last 6 (some .int) 1 := ⟨gn_t 1098 (by decide +kernel) (by decide +kernel), gn_t 107 (by decide +kernel) (by decide +kernel), by decide +kernel, by decide +kernel, by decide +kernel⟩
theorem mv_X4_last : gn_Mv yX4_last := ⟨gn_t 1096 (by decide +kernel) (by decide +kernel), gn_t 1097 (by decide +kernel) (by decide +kernel)⟩
theorem my_X3_refusalOfPairs : gn_My yX3_refusalOfPairs cX3_refusalOfPairs 5 (some .int) 2 := ⟨gn_t 646 (by decide +kernel) (by decide +kernel), gn_t 102 (by decide +kernel) (by decide +kernel), by decide +kernel, by decide +kernel, by decide +kernel⟩
theorem mv_X3_refusalOfPairs : gn_Mv yX3_refusalOfPairs := ⟨gn_t 645 (by decide +kernel) (by decide +kernel), gn_t 50 (by decide +kernel) (by decide +kernel)⟩
theorem my_X3_fitsPairs : gn_My yX3_fitsPairs cX3_fitsPairs 6 (some .boolean) 3 := ⟨gn_t 654 (by decide +kernel) (by decide +kernel), gn_t 102 (by decide +kernel) (by decide +kernel), by decide +kernel, by decide +kernel, by decide +kernel⟩
theorem mv_X3_fitsPairs : gn_Mv yX3_fitsPairs := ⟨gn_t 653 (by decide +kernel) (by decide +kernel), gn_t 52 (by decide +kernel) (by decide +kernel)⟩
theorem ml_X3_335 : Cond.methodLink RX3 335 yX3_fitsPairs ∈ gn_T := gn_t 651 (by decide +kernel) (by decide +kernel)
theorem my_X3_kindsByPairs : gn_My yX3_kindsByPairs cX3_kindsByPairs 5 (some .int) 2 := ⟨gn_t 650 (by decide +kernel) (by decide +kernel), gn_t 102 (by decide +kernel) (by decide +kernel), by decide +kernel, by decide +kernel, by decide +kernel⟩
theorem mv_X3_kindsByPairs : gn_Mv yX3_kindsByPairs := ⟨gn_t 649 (by decide +kernel) (by decide +kernel), gn_t 51 (by decide +kernel) (by decide +kernel)⟩
theorem ml_X3_253 : Cond.methodLink RX3 253 yX3_refusalOfPairs ∈ gn_T := gn_t 643 (by decide +kernel) (by decide +kernel)
theorem ml_X3_256 : Cond.methodLink RX3 256 yX3_kindsByPairs ∈ gn_T := gn_t 647 (by decide +kernel) (by decide +kernel)
theorem my_X3_kinds : gn_My yX3_kinds cX3_kinds 4 (some .int) 2 := ⟨gn_t 642 (by decide +kernel) (by decide +kernel), gn_t 102 (by decide +kernel) (by decide +kernel), by decide +kernel, by decide +kernel, by decide +kernel⟩
theorem mv_X3_kinds : gn_Mv yX3_kinds := ⟨gn_t 640 (by decide +kernel) (by decide +kernel), gn_t 641 (by decide +kernel) (by decide +kernel)⟩
theorem my_X4_pairs : gn_My yX4_pairs cX4_pairs 4 (some .int) 1 := ⟨gn_t 1106 (by decide +kernel) (by decide +kernel), gn_t 107 (by decide +kernel) (by decide +kernel), by decide +kernel, by decide +kernel, by decide +kernel⟩
theorem mv_X4_pairs : gn_Mv yX4_pairs := ⟨gn_t 1105 (by decide +kernel) (by decide +kernel), gn_t 94 (by decide +kernel) (by decide +kernel)⟩
theorem my_X4_kindsBy : gn_My yX4_kindsBy cX4_kindsBy 7 (some .int) 2 := ⟨gn_t 1110 (by decide +kernel) (by decide +kernel), gn_t 107 (by decide +kernel) (by decide +kernel), by decide +kernel, by decide +kernel, by decide +kernel⟩
theorem mv_X4_kindsBy : gn_Mv yX4_kindsBy := ⟨gn_t 1109 (by decide +kernel) (by decide +kernel), gn_t 95 (by decide +kernel) (by decide +kernel)⟩
theorem ml_X4_213 : Cond.methodLink RX4 213 yX4_pairs ∈ gn_T := gn_t 1103 (by decide +kernel) (by decide +kernel)
theorem ml_X4_216 : Cond.methodLink RX4 216 yX4_kindsBy ∈ gn_T := gn_t 1107 (by decide +kernel) (by decide +kernel)
theorem my_X4_kinds : gn_My yX4_kinds cX4_kinds 4 (some .int) 2 := ⟨gn_t 1102 (by decide +kernel) (by decide +kernel), gn_t 107 (by decide +kernel) (by decide +kernel), by decide +kernel, by decide +kernel, by decide +kernel⟩
theorem mv_X4_kinds : gn_Mv yX4_kinds := ⟨gn_t 1100 (by decide +kernel) (by decide +kernel), gn_t 1101 (by decide +kernel) (by decide +kernel)⟩
theorem ml_X3_338 : Cond.methodLink RX3 338 yX3_isIn ∈ gn_T := gn_t 662 (by decide +kernel) (by decide +kernel)
theorem ml_X3_341 : Cond.methodLink RX3 341 Lib.Math.max.name ∈ gn_T := gn_t 663 (by decide +kernel) (by decide +kernel)
theorem my_X3_greatestPart : gn_My yX3_greatestPart cX3_greatestPart 8 (some .int) 3 := ⟨gn_t 661 (by decide +kernel) (by decide +kernel), gn_t 102 (by decide +kernel) (by decide +kernel), by decide +kernel, by decide +kernel, by decide +kernel⟩
theorem ms_X3_greatestPart : Cond.static yX3_greatestPart ∈ gn_T := gn_t 660 (by decide +kernel) (by decide +kernel)
theorem ml_X3_259 : Cond.methodLink RX3 259 yX3_greatestPart ∈ gn_T := gn_t 659 (by decide +kernel) (by decide +kernel)
theorem my_X3_test : gn_My yX3_test cX3_test 9 (some .int) 2 := ⟨gn_t 658 (by decide +kernel) (by decide +kernel), gn_t 102 (by decide +kernel) (by decide +kernel), by decide +kernel, by decide +kernel, by decide +kernel⟩
theorem mv_X3_test : gn_Mv yX3_test := ⟨gn_t 656 (by decide +kernel) (by decide +kernel), gn_t 657 (by decide +kernel) (by decide +kernel)⟩
theorem my_X4_test : gn_My yX4_test cX4_test 12 (some .int) 2 := ⟨gn_t 1114 (by decide +kernel) (by decide +kernel), gn_t 107 (by decide +kernel) (by decide +kernel), by decide +kernel, by decide +kernel, by decide +kernel⟩
theorem mv_X4_test : gn_Mv yX4_test := ⟨gn_t 1112 (by decide +kernel) (by decide +kernel), gn_t 1113 (by decide +kernel) (by decide +kernel)⟩
theorem fl_X1_21 : Cond.fieldLink RX1 21 RX1 (TX1 3).2.1 (TX1 3).2.2.1 ∈ gn_T := gn_t 206 (by decide +kernel) (by decide +kernel)
theorem q_8_3 : gn_Fd 8 1 3 (.inl 36) RX1 TX1 8 tyX1 := ⟨rfl, cw_X1, tyX1_ok, nmX1, ⟨_, rfl, rfl⟩, by decide, rfl⟩
theorem s_36 : gn_S[36]? = some (.inl (0, 128)) := rfl
theorem my_X1_winningMove : gn_My yX1_winningMove cX1_winningMove 4 (some .int) 2 := ⟨gn_t 679 (by decide +kernel) (by decide +kernel), gn_t 106 (by decide +kernel) (by decide +kernel), by decide +kernel, by decide +kernel, by decide +kernel⟩
theorem mv_X1_winningMove : gn_Mv yX1_winningMove := ⟨gn_t 678 (by decide +kernel) (by decide +kernel), gn_t 55 (by decide +kernel) (by decide +kernel)⟩
theorem ml_X1_108 : Cond.methodLink RX1 108 yX1_winningMove ∈ gn_T := gn_t 676 (by decide +kernel) (by decide +kernel)
theorem my_X1_winnersAt : gn_My yX1_winnersAt cX1_winnersAt 4 (some .int) 1 := ⟨gn_t 675 (by decide +kernel) (by decide +kernel), gn_t 106 (by decide +kernel) (by decide +kernel), by decide +kernel, by decide +kernel, by decide +kernel⟩
theorem mv_X1_winnersAt : gn_Mv yX1_winnersAt := ⟨gn_t 674 (by decide +kernel) (by decide +kernel), gn_t 54 (by decide +kernel) (by decide +kernel)⟩
theorem ml_X1_105 : Cond.methodLink RX1 105 yX1_winnersAt ∈ gn_T := gn_t 672 (by decide +kernel) (by decide +kernel)
theorem my_X1_winningGoer : gn_My yX1_winningGoer cX1_winningGoer 2 (some .int) 0 := ⟨gn_t 671 (by decide +kernel) (by decide +kernel), gn_t 106 (by decide +kernel) (by decide +kernel), by decide +kernel, by decide +kernel, by decide +kernel⟩
theorem mv_X1_winningGoer : gn_Mv yX1_winningGoer := ⟨gn_t 670 (by decide +kernel) (by decide +kernel), gn_t 53 (by decide +kernel) (by decide +kernel)⟩
theorem ml_X3_262 : Cond.methodLinkNest RX3 262 yX1_winningGoer "GateNames" ∈ gn_N := gn_nn 668 (by decide +kernel) (by decide +kernel)
theorem my_X3_duel : gn_My yX3_duel cX3_duel 1 (some .int) 0 := ⟨gn_t 667 (by decide +kernel) (by decide +kernel), gn_t 102 (by decide +kernel) (by decide +kernel), by decide +kernel, by decide +kernel, by decide +kernel⟩
theorem mv_X3_duel : gn_Mv yX3_duel := ⟨gn_t 665 (by decide +kernel) (by decide +kernel), gn_t 666 (by decide +kernel) (by decide +kernel)⟩
theorem fl_X4_63 : Cond.fieldLink RX4 63 RX4 (TX4 23).2.1 (TX4 23).2.2.1 ∈ gn_T := gn_t 789 (by decide +kernel) (by decide +kernel)
theorem q_38_23 : gn_Fd 38 4 23 (.inl 55) RX4 TX4 24 tyX4 := ⟨rfl, cw_X4, tyX4_ok, nmX4, ⟨_, rfl, rfl⟩, by decide, rfl⟩
theorem s_55 : gn_S[55]? = some (.inl (2, 1024)) := rfl
theorem my_X4_duel : gn_My yX4_duel cX4_duel 8 (some .int) 0 := ⟨gn_t 1118 (by decide +kernel) (by decide +kernel), gn_t 107 (by decide +kernel) (by decide +kernel), by decide +kernel, by decide +kernel, by decide +kernel⟩
theorem mv_X4_duel : gn_Mv yX4_duel := ⟨gn_t 1116 (by decide +kernel) (by decide +kernel), gn_t 1117 (by decide +kernel) (by decide +kernel)⟩
theorem gk_l_1 : Int64.ofNat ((1 : Fin 2) : Nat) = (1 : Int64) := by decide +kernel
theorem my_X3_power : gn_My yX3_power cX3_power 5 (some .long) 2 := ⟨gn_t 690 (by decide +kernel) (by decide +kernel), gn_t 102 (by decide +kernel) (by decide +kernel), by decide +kernel, by decide +kernel, by decide +kernel⟩
theorem ms_X3_power : Cond.static yX3_power ∈ gn_T := gn_t 689 (by decide +kernel) (by decide +kernel)
theorem gk_b_12 : (Int8.ofInt (12)).toInt32 = (12 : Int32) := by decide +kernel
theorem ml_X3_295 : Cond.methodLink RX3 295 yX3_power ∈ gn_T := gn_t 688 (by decide +kernel) (by decide +kernel)
theorem my_X3_weightOf : gn_My yX3_weightOf cX3_weightOf 5 (some .long) 2 := ⟨gn_t 687 (by decide +kernel) (by decide +kernel), gn_t 102 (by decide +kernel) (by decide +kernel), by decide +kernel, by decide +kernel, by decide +kernel⟩
theorem mv_X3_weightOf : gn_Mv yX3_weightOf := ⟨gn_t 686 (by decide +kernel) (by decide +kernel), gn_t 56 (by decide +kernel) (by decide +kernel)⟩
theorem my_X3_commonDivisor : gn_My yX3_commonDivisor cX3_commonDivisor 11 (some .long) 2 := ⟨gn_t 697 (by decide +kernel) (by decide +kernel), gn_t 102 (by decide +kernel) (by decide +kernel), by decide +kernel, by decide +kernel, by decide +kernel⟩
theorem ms_X3_commonDivisor : Cond.static yX3_commonDivisor ∈ gn_T := gn_t 696 (by decide +kernel) (by decide +kernel)
theorem ml_X3_298 : Cond.methodLink RX3 298 yX3_commonDivisor ∈ gn_T := gn_t 695 (by decide +kernel) (by decide +kernel)
theorem fl_X3_60 : Cond.fieldLink RX3 60 RX3 (TX3 11).2.1 (TX3 11).2.2.1 ∈ gn_T := gn_t 242 (by decide +kernel) (by decide +kernel)
theorem q_0_11 : gn_Fd 0 3 11 (.inr true) RX3 TX3 13 tyX3 := ⟨rfl, cw_X3, tyX3_ok, nmX3, ⟨_, rfl, rfl⟩, by decide, rfl⟩
theorem fl_X3_64 : Cond.fieldLink RX3 64 RX3 (TX3 12).2.1 (TX3 12).2.2.1 ∈ gn_T := gn_t 243 (by decide +kernel) (by decide +kernel)
theorem q_0_12 : gn_Fd 0 3 12 (.inr true) RX3 TX3 13 tyX3 := ⟨rfl, cw_X3, tyX3_ok, nmX3, ⟨_, rfl, rfl⟩, by decide, rfl⟩
theorem my_X3_toldInParts : gn_My yX3_toldInParts cX3_toldInParts 7 (some .int) 1 := ⟨gn_t 694 (by decide +kernel) (by decide +kernel), gn_t 102 (by decide +kernel) (by decide +kernel), by decide +kernel, by decide +kernel, by decide +kernel⟩
theorem mv_X3_toldInParts : gn_Mv yX3_toldInParts := ⟨gn_t 693 (by decide +kernel) (by decide +kernel), gn_t 57 (by decide +kernel) (by decide +kernel)⟩
theorem ml_X3_265 : Cond.methodLink RX3 265 yX3_weightOf ∈ gn_T := gn_t 684 (by decide +kernel) (by decide +kernel)
theorem ml_X3_269 : Cond.methodLink RX3 269 yX3_toldInParts ∈ gn_T := gn_t 691 (by decide +kernel) (by decide +kernel)
theorem my_X3_odds : gn_My yX3_odds cX3_odds 5 (some .int) 1 := ⟨gn_t 683 (by decide +kernel) (by decide +kernel), gn_t 102 (by decide +kernel) (by decide +kernel), by decide +kernel, by decide +kernel, by decide +kernel⟩
theorem mv_X3_odds : gn_Mv yX3_odds := ⟨gn_t 681 (by decide +kernel) (by decide +kernel), gn_t 682 (by decide +kernel) (by decide +kernel)⟩
theorem kl_X4_219 : Cond.constantLong RX4 219 (12) ∈ gn_T := gn_t 1127 (by decide +kernel) (by decide +kernel)
theorem my_X4_waysOf : gn_My yX4_waysOf cX4_waysOf 7 (some .long) 2 := ⟨gn_t 1126 (by decide +kernel) (by decide +kernel), gn_t 107 (by decide +kernel) (by decide +kernel), by decide +kernel, by decide +kernel, by decide +kernel⟩
theorem mv_X4_waysOf : gn_Mv yX4_waysOf := ⟨gn_t 1125 (by decide +kernel) (by decide +kernel), gn_t 96 (by decide +kernel) (by decide +kernel)⟩
theorem my_X4_allWays : gn_My yX4_allWays cX4_allWays 4 (some .long) 0 := ⟨gn_t 1131 (by decide +kernel) (by decide +kernel), gn_t 107 (by decide +kernel) (by decide +kernel), by decide +kernel, by decide +kernel, by decide +kernel⟩
theorem mv_X4_allWays : gn_Mv yX4_allWays := ⟨gn_t 1130 (by decide +kernel) (by decide +kernel), gn_t 97 (by decide +kernel) (by decide +kernel)⟩
theorem fl_X4_74 : Cond.fieldLink RX4 74 RX4 (TX4 3).2.1 (TX4 3).2.2.1 ∈ gn_T := gn_t 769 (by decide +kernel) (by decide +kernel)
theorem q_38_3 : gn_Fd 38 4 3 (.inr true) RX4 TX4 24 tyX4 := ⟨rfl, cw_X4, tyX4_ok, nmX4, ⟨_, rfl, rfl⟩, by decide, rfl⟩
theorem fl_X4_13 : Cond.fieldLink RX4 13 RX4 (TX4 4).2.1 (TX4 4).2.2.1 ∈ gn_T := gn_t 770 (by decide +kernel) (by decide +kernel)
theorem q_38_4 : gn_Fd 38 4 4 (.inr true) RX4 TX4 24 tyX4 := ⟨rfl, cw_X4, tyX4_ok, nmX4, ⟨_, rfl, rfl⟩, by decide, rfl⟩
theorem my_X4_fraction : gn_My yX4_fraction cX4_fraction 11 (some .int) 2 := ⟨gn_t 1135 (by decide +kernel) (by decide +kernel), gn_t 107 (by decide +kernel) (by decide +kernel), by decide +kernel, by decide +kernel, by decide +kernel⟩
theorem mv_X4_fraction : gn_Mv yX4_fraction := ⟨gn_t 1134 (by decide +kernel) (by decide +kernel), gn_t 98 (by decide +kernel) (by decide +kernel)⟩
theorem ml_X4_221 : Cond.methodLink RX4 221 yX4_waysOf ∈ gn_T := gn_t 1123 (by decide +kernel) (by decide +kernel)
theorem ml_X4_225 : Cond.methodLink RX4 225 yX4_allWays ∈ gn_T := gn_t 1128 (by decide +kernel) (by decide +kernel)
theorem ml_X4_229 : Cond.methodLink RX4 229 yX4_fraction ∈ gn_T := gn_t 1132 (by decide +kernel) (by decide +kernel)
theorem my_X4_odds : gn_My yX4_odds cX4_odds 5 (some .int) 1 := ⟨gn_t 1122 (by decide +kernel) (by decide +kernel), gn_t 107 (by decide +kernel) (by decide +kernel), by decide +kernel, by decide +kernel, by decide +kernel⟩
theorem mv_X4_odds : gn_Mv yX4_odds := ⟨gn_t 1120 (by decide +kernel) (by decide +kernel), gn_t 1121 (by decide +kernel) (by decide +kernel)⟩
theorem ml_X3_273 : Cond.methodLinkNest RX3 273 yX1_within "GateNames" ∈ gn_N := gn_nn 702 (by decide +kernel) (by decide +kernel)
theorem my_X3_mid : gn_My yX3_mid cX3_mid 5 (some .int) 1 := ⟨gn_t 701 (by decide +kernel) (by decide +kernel), gn_t 102 (by decide +kernel) (by decide +kernel), by decide +kernel, by decide +kernel, by decide +kernel⟩
theorem mv_X3_mid : gn_Mv yX3_mid := ⟨gn_t 699 (by decide +kernel) (by decide +kernel), gn_t 700 (by decide +kernel) (by decide +kernel)⟩
theorem my_X4_mid : gn_My yX4_mid cX4_mid 5 (some .int) 1 := ⟨gn_t 1139 (by decide +kernel) (by decide +kernel), gn_t 107 (by decide +kernel) (by decide +kernel), by decide +kernel, by decide +kernel, by decide +kernel⟩
theorem mv_X4_mid : gn_Mv yX4_mid := ⟨gn_t 1137 (by decide +kernel) (by decide +kernel), gn_t 1138 (by decide +kernel) (by decide +kernel)⟩
theorem gk_b_64 : (Int8.ofInt (64)).toInt32 = (64 : Int32) := by decide +kernel
theorem my_X3_doByLot : gn_My yX3_doByLot cX3_doByLot 4 none 1 := ⟨gn_t 712 (by decide +kernel) (by decide +kernel), gn_t 102 (by decide +kernel) (by decide +kernel), by decide +kernel, by decide +kernel, by decide +kernel⟩
theorem mv_X3_doByLot : gn_Mv yX3_doByLot := ⟨gn_t 711 (by decide +kernel) (by decide +kernel), gn_t 58 (by decide +kernel) (by decide +kernel)⟩
theorem gk_b_20 : (Int8.ofInt (20)).toInt32 = (20 : Int32) := by decide +kernel
theorem kl_X3_276 : Cond.constantLong RX3 276 (2147483647) ∈ gn_T := gn_t 707 (by decide +kernel) (by decide +kernel)
theorem kl_X3_278 : Cond.constantLong RX3 278 (48271) ∈ gn_T := gn_t 708 (by decide +kernel) (by decide +kernel)
theorem ml_X3_280 : Cond.methodLink RX3 280 yX3_doByLot ∈ gn_T := gn_t 709 (by decide +kernel) (by decide +kernel)
theorem my_X3_lots : gn_My yX3_lots cX3_lots 6 (some .int) 2 := ⟨gn_t 706 (by decide +kernel) (by decide +kernel), gn_t 102 (by decide +kernel) (by decide +kernel), by decide +kernel, by decide +kernel, by decide +kernel⟩
theorem mv_X3_lots : gn_Mv yX3_lots := ⟨gn_t 704 (by decide +kernel) (by decide +kernel), gn_t 705 (by decide +kernel) (by decide +kernel)⟩
theorem my_X4_lot : gn_My yX4_lot cX4_lot 4 none 3 := ⟨gn_t 1153 (by decide +kernel) (by decide +kernel), gn_t 107 (by decide +kernel) (by decide +kernel), by decide +kernel, by decide +kernel, by decide +kernel⟩
theorem mv_X4_lot : gn_Mv yX4_lot := ⟨gn_t 1152 (by decide +kernel) (by decide +kernel), gn_t 99 (by decide +kernel) (by decide +kernel)⟩
theorem kc_X4_233 : Cond.constant RX4 233 (2147483646) ∈ gn_T := gn_t 1144 (by decide +kernel) (by decide +kernel)
theorem kl_X4_234 : Cond.constantLong RX4 234 (48271) ∈ gn_T := gn_t 1145 (by decide +kernel) (by decide +kernel)
theorem kl_X4_236 : Cond.constantLong RX4 236 (2147483647) ∈ gn_T := gn_t 1146 (by decide +kernel) (by decide +kernel)
theorem kl_X4_238 : Cond.constantLong RX4 238 (4) ∈ gn_T := gn_t 1147 (by decide +kernel) (by decide +kernel)
theorem kl_X4_240 : Cond.constantLong RX4 240 (8) ∈ gn_T := gn_t 1148 (by decide +kernel) (by decide +kernel)
theorem kl_X4_242 : Cond.constantLong RX4 242 (64) ∈ gn_T := gn_t 1149 (by decide +kernel) (by decide +kernel)
theorem ml_X4_244 : Cond.methodLink RX4 244 yX4_lot ∈ gn_T := gn_t 1150 (by decide +kernel) (by decide +kernel)
theorem my_X4_lots : gn_My yX4_lots cX4_lots 6 (some .int) 2 := ⟨gn_t 1143 (by decide +kernel) (by decide +kernel), gn_t 107 (by decide +kernel) (by decide +kernel), by decide +kernel, by decide +kernel, by decide +kernel⟩
theorem mv_X4_lots : gn_Mv yX4_lots := ⟨gn_t 1141 (by decide +kernel) (by decide +kernel), gn_t 1142 (by decide +kernel) (by decide +kernel)⟩
theorem my_X3_asked : gn_My yX3_asked cX3_asked 1 (some .int) 0 := ⟨gn_t 716 (by decide +kernel) (by decide +kernel), gn_t 102 (by decide +kernel) (by decide +kernel), by decide +kernel, by decide +kernel, by decide +kernel⟩
theorem mv_X3_asked : gn_Mv yX3_asked := ⟨gn_t 714 (by decide +kernel) (by decide +kernel), gn_t 715 (by decide +kernel) (by decide +kernel)⟩
theorem my_X4_asked : gn_My yX4_asked cX4_asked 1 (some .int) 0 := ⟨gn_t 1157 (by decide +kernel) (by decide +kernel), gn_t 107 (by decide +kernel) (by decide +kernel), by decide +kernel, by decide +kernel, by decide +kernel⟩
theorem mv_X4_asked : gn_Mv yX4_asked := ⟨gn_t 1155 (by decide +kernel) (by decide +kernel), gn_t 1156 (by decide +kernel) (by decide +kernel)⟩
theorem my_X3_upper : gn_My yX3_upper cX3_upper 1 (some .long) 0 := ⟨gn_t 720 (by decide +kernel) (by decide +kernel), gn_t 102 (by decide +kernel) (by decide +kernel), by decide +kernel, by decide +kernel, by decide +kernel⟩
theorem mv_X3_upper : gn_Mv yX3_upper := ⟨gn_t 718 (by decide +kernel) (by decide +kernel), gn_t 719 (by decide +kernel) (by decide +kernel)⟩
theorem my_X4_upper : gn_My yX4_upper cX4_upper 1 (some .long) 0 := ⟨gn_t 1161 (by decide +kernel) (by decide +kernel), gn_t 107 (by decide +kernel) (by decide +kernel), by decide +kernel, by decide +kernel, by decide +kernel⟩
theorem mv_X4_upper : gn_Mv yX4_upper := ⟨gn_t 1159 (by decide +kernel) (by decide +kernel), gn_t 1160 (by decide +kernel) (by decide +kernel)⟩
theorem my_X3_lower : gn_My yX3_lower cX3_lower 1 (some .long) 0 := ⟨gn_t 724 (by decide +kernel) (by decide +kernel), gn_t 102 (by decide +kernel) (by decide +kernel), by decide +kernel, by decide +kernel, by decide +kernel⟩
theorem mv_X3_lower : gn_Mv yX3_lower := ⟨gn_t 722 (by decide +kernel) (by decide +kernel), gn_t 723 (by decide +kernel) (by decide +kernel)⟩
theorem my_X4_lower : gn_My yX4_lower cX4_lower 1 (some .long) 0 := ⟨gn_t 1165 (by decide +kernel) (by decide +kernel), gn_t 107 (by decide +kernel) (by decide +kernel), by decide +kernel, by decide +kernel, by decide +kernel⟩
theorem mv_X4_lower : gn_Mv yX4_lower := ⟨gn_t 1163 (by decide +kernel) (by decide +kernel), gn_t 1164 (by decide +kernel) (by decide +kernel)⟩
theorem my_X2_present : gn_My yX2_present cX2_present 3 (some .int) 0 := ⟨gn_t 736 (by decide +kernel) (by decide +kernel), gn_t 103 (by decide +kernel) (by decide +kernel), by decide +kernel, by decide +kernel, by decide +kernel⟩
theorem mv_X2_present : gn_Mv yX2_present := ⟨gn_t 735 (by decide +kernel) (by decide +kernel), gn_t 60 (by decide +kernel) (by decide +kernel)⟩
theorem my_X3_keptGates : gn_My yX3_keptGates cX3_keptGates 3 (some .int) 0 := ⟨gn_t 740 (by decide +kernel) (by decide +kernel), gn_t 102 (by decide +kernel) (by decide +kernel), by decide +kernel, by decide +kernel, by decide +kernel⟩
theorem mv_X3_keptGates : gn_Mv yX3_keptGates := ⟨gn_t 739 (by decide +kernel) (by decide +kernel), gn_t 61 (by decide +kernel) (by decide +kernel)⟩
theorem ml_X3_312 : Cond.methodLinkNest RX3 312 yX2_present "GateNames" ∈ gn_N := gn_nn 733 (by decide +kernel) (by decide +kernel)
theorem ml_X3_315 : Cond.methodLink RX3 315 yX3_keptGates ∈ gn_T := gn_t 737 (by decide +kernel) (by decide +kernel)
theorem fl_X3_318 : Cond.fieldLinkNest RX3 318 RX0 (TX0 4).2.1 (TX0 4).2.2.1 "GateNames" ∈ gn_N := gn_nn 158 (by decide +kernel) (by decide +kernel)
theorem my_X3_countOf : gn_My yX3_countOf cX3_countOf 2 (some .int) 1 := ⟨gn_t 732 (by decide +kernel) (by decide +kernel), gn_t 102 (by decide +kernel) (by decide +kernel), by decide +kernel, by decide +kernel, by decide +kernel⟩
theorem mv_X3_countOf : gn_Mv yX3_countOf := ⟨gn_t 731 (by decide +kernel) (by decide +kernel), gn_t 59 (by decide +kernel) (by decide +kernel)⟩
theorem ml_X3_284 : Cond.methodLink RX3 284 yX3_countOf ∈ gn_T := gn_t 729 (by decide +kernel) (by decide +kernel)
theorem my_X3_count : gn_My yX3_count cX3_count 2 (some .int) 1 := ⟨gn_t 728 (by decide +kernel) (by decide +kernel), gn_t 102 (by decide +kernel) (by decide +kernel), by decide +kernel, by decide +kernel, by decide +kernel⟩
theorem mv_X3_count : gn_Mv yX3_count := ⟨gn_t 726 (by decide +kernel) (by decide +kernel), gn_t 727 (by decide +kernel) (by decide +kernel)⟩
theorem my_X4_thereAre : gn_My yX4_thereAre cX4_thereAre 4 (some .int) 1 := ⟨gn_t 1173 (by decide +kernel) (by decide +kernel), gn_t 107 (by decide +kernel) (by decide +kernel), by decide +kernel, by decide +kernel, by decide +kernel⟩
theorem mv_X4_thereAre : gn_Mv yX4_thereAre := ⟨gn_t 1172 (by decide +kernel) (by decide +kernel), gn_t 100 (by decide +kernel) (by decide +kernel)⟩
theorem ml_X4_248 : Cond.methodLink RX4 248 yX4_thereAre ∈ gn_T := gn_t 1170 (by decide +kernel) (by decide +kernel)
theorem my_X4_count : gn_My yX4_count cX4_count 2 (some .int) 1 := ⟨gn_t 1169 (by decide +kernel) (by decide +kernel), gn_t 107 (by decide +kernel) (by decide +kernel), by decide +kernel, by decide +kernel, by decide +kernel⟩
theorem mv_X4_count : gn_Mv yX4_count := ⟨gn_t 1167 (by decide +kernel) (by decide +kernel), gn_t 1168 (by decide +kernel) (by decide +kernel)⟩
theorem my_X3_finding : gn_My yX3_finding cX3_finding 1 (some .int) 0 := ⟨gn_t 744 (by decide +kernel) (by decide +kernel), gn_t 102 (by decide +kernel) (by decide +kernel), by decide +kernel, by decide +kernel, by decide +kernel⟩
theorem mv_X3_finding : gn_Mv yX3_finding := ⟨gn_t 742 (by decide +kernel) (by decide +kernel), gn_t 743 (by decide +kernel) (by decide +kernel)⟩
theorem my_X4_finding : gn_My yX4_finding cX4_finding 1 (some .int) 0 := ⟨gn_t 1177 (by decide +kernel) (by decide +kernel), gn_t 107 (by decide +kernel) (by decide +kernel), by decide +kernel, by decide +kernel, by decide +kernel⟩
theorem mv_X4_finding : gn_Mv yX4_finding := ⟨gn_t 1175 (by decide +kernel) (by decide +kernel), gn_t 1176 (by decide +kernel) (by decide +kernel)⟩
theorem my_X3_findings : gn_My yX3_findings cX3_findings 2 (some .int) 1 := ⟨gn_t 748 (by decide +kernel) (by decide +kernel), gn_t 102 (by decide +kernel) (by decide +kernel), by decide +kernel, by decide +kernel, by decide +kernel⟩
theorem mv_X3_findings : gn_Mv yX3_findings := ⟨gn_t 746 (by decide +kernel) (by decide +kernel), gn_t 747 (by decide +kernel) (by decide +kernel)⟩
theorem my_X4_findings : gn_My yX4_findings cX4_findings 2 (some .int) 1 := ⟨gn_t 1181 (by decide +kernel) (by decide +kernel), gn_t 107 (by decide +kernel) (by decide +kernel), by decide +kernel, by decide +kernel, by decide +kernel⟩
theorem mv_X4_findings : gn_Mv yX4_findings := ⟨gn_t 1179 (by decide +kernel) (by decide +kernel), gn_t 1180 (by decide +kernel) (by decide +kernel)⟩
theorem kl_X2_28 : Cond.constantLong RX2 28 (31) ∈ gn_T := gn_t 759 (by decide +kernel) (by decide +kernel)
theorem my_X2_digestFrom : gn_My yX2_digestFrom cX2_digestFrom 7 (some .long) 1 := ⟨gn_t 758 (by decide +kernel) (by decide +kernel), gn_t 103 (by decide +kernel) (by decide +kernel), by decide +kernel, by decide +kernel, by decide +kernel⟩
theorem mv_X2_digestFrom : gn_Mv yX2_digestFrom := ⟨gn_t 757 (by decide +kernel) (by decide +kernel), gn_t 62 (by decide +kernel) (by decide +kernel)⟩
theorem kl_X3_287 : Cond.constantLong RX3 287 (17) ∈ gn_T := gn_t 753 (by decide +kernel) (by decide +kernel)
theorem kl_X3_289 : Cond.constantLong RX3 289 (31) ∈ gn_T := gn_t 754 (by decide +kernel) (by decide +kernel)
theorem ml_X3_291 : Cond.methodLinkNest RX3 291 yX2_digestFrom "GateNames" ∈ gn_N := gn_nn 755 (by decide +kernel) (by decide +kernel)
theorem my_X3_digest : gn_My yX3_digest cX3_digest 5 (some .long) 0 := ⟨gn_t 752 (by decide +kernel) (by decide +kernel), gn_t 102 (by decide +kernel) (by decide +kernel), by decide +kernel, by decide +kernel, by decide +kernel⟩
theorem mv_X3_digest : gn_Mv yX3_digest := ⟨gn_t 750 (by decide +kernel) (by decide +kernel), gn_t 751 (by decide +kernel) (by decide +kernel)⟩
theorem kl_X4_251 : Cond.constantLong RX4 251 (17) ∈ gn_T := gn_t 1186 (by decide +kernel) (by decide +kernel)
theorem gk_b_11 : (Int8.ofInt (11)).toInt32 = (11 : Int32) := by decide +kernel
theorem kl_X4_253 : Cond.constantLong RX4 253 (31) ∈ gn_T := gn_t 1187 (by decide +kernel) (by decide +kernel)
theorem ml_X4_255 : Cond.methodLink RX4 255 yX4_count ∈ gn_T := gn_t 1188 (by decide +kernel) (by decide +kernel)
theorem my_X4_digest : gn_My yX4_digest cX4_digest 5 (some .long) 0 := ⟨gn_t 1185 (by decide +kernel) (by decide +kernel), gn_t 107 (by decide +kernel) (by decide +kernel), by decide +kernel, by decide +kernel, by decide +kernel⟩
theorem mv_X4_digest : gn_Mv yX4_digest := ⟨gn_t 1183 (by decide +kernel) (by decide +kernel), gn_t 1184 (by decide +kernel) (by decide +kernel)⟩
