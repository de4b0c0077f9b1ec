def f_X4_in (p0 : Int32) (p1 : Int32) (p2 : Int32) : Option (Int32) := (if p0 < p1 then some (0 : Int32) else (if p2 < p0 then some (0 : Int32) else some (1 : Int32)))
set_option maxRecDepth 100000 in
set_option maxHeartbeats 4000000 in
theorem c_X4_in {m : gn_M} {p0 : Int32} {p1 : Int32} {p2 : Int32} {v : Int32} (h : f_X4_in p0 p1 p2 = some v) : gn_Cl yX4_in cX4_in 3 (some .boolean) 0 0 [.int p0, .int p1, .int p2] m (some (.int v)) m := by
  rw [f_X4_in] at h
  refine gn_met (lv := [some (.int p0), some (.int p1), some (.int p2)]) pl_X4 rfl rfl (Nat.le_of_ble_eq_true rfl) ?_
  refine gr_iload_n dX4_in_0 rfl rfl ?_
  refine gr_iload_n dX4_in_1 rfl rfl ?_
  refine gr_icmp_lt (tgt := 14) dX4_in_2 (by decide) h (fun _ h => ?_) (fun _ h => ?_)
  · refine gr_iconst dX4_in_14 gk_i_0 ?_
    exact gq_retI dX4_in_15 rfl h
  · refine gr_iload_n dX4_in_5 rfl rfl ?_
    refine gr_iload_n dX4_in_6 rfl rfl ?_
    refine gr_icmp_gt (tgt := 14) dX4_in_7 (by decide) h (fun _ h => ?_) (fun _ h => ?_)
    · refine gr_iconst dX4_in_14 gk_i_0 ?_
      exact gq_retI dX4_in_15 rfl h
    · refine gr_iconst dX4_in_10 gk_i_1 ?_
      refine gr_goto (tgt := 15) dX4_in_11 (by decide) ?_
      exact gq_retI dX4_in_15 rfl h
def f_X4_isRow (p0 : Int32) : Option (Int32) := (f_X4_in p0 (0 : Int32) (5 : Int32)).bind (fun x1 => some x1)
set_option maxRecDepth 100000 in
set_option maxHeartbeats 4000000 in
theorem c_X4_isRow {m : gn_M} {p0 : Int32} {v : Int32} (h : f_X4_isRow p0 = some v) : gn_Cl yX4_isRow cX4_isRow 1 (some .boolean) 1 22 [.int p0] m (some (.int v)) m := by
  rw [f_X4_isRow] at h
  refine gn_met (lv := [some (.int p0)]) pl_X4 rfl rfl (Nat.le_of_ble_eq_true rfl) ?_
  refine gr_iload_n dX4_isRow_0 rfl rfl ?_
  refine gr_iconst dX4_isRow_1 gk_i_0 ?_
  refine gr_iconst dX4_isRow_2 gk_i_5 ?_
  obtain ⟨x1, hx1, h⟩ := gn_bd h
  refine gc_SI (c_X4_in hx1) my_X4_in ms_X4_in ml_X4_77 rfl rfl ⟨Nat.le_of_ble_eq_true rfl, Nat.le_of_ble_eq_true rfl⟩ (Nat.le_of_ble_eq_true rfl) dX4_isRow_3 (fun fx1 => ?_)
  exact gq_retI dX4_isRow_6 fx1 h
def f_X4_find (m : gn_M) (p0 : Int32) : Option (Int32 × gn_M) := gn_pf m 38 0 p0 (fun m1 => gn_rd m1 39 6 p0 (fun x2 => gn_wr m1 39 6 p0 (x2 + (1 : Int32)) (fun m3 => some ((-3 : Int32), m3))))
set_option maxRecDepth 100000 in
set_option maxHeartbeats 4000000 in
theorem c_X4_find {m : gn_M} {p0 : Int32} {v : Int32 × gn_M} (h : f_X4_find m p0 = some v) : gn_Cl yX4_find cX4_find 2 (some .int) 0 0 [.ref 38, .int p0] m (some (.int v.1)) v.2 := by
  rw [f_X4_find] at h
  refine gn_met (lv := [some (.ref 38), some (.int p0)]) pl_X4 rfl rfl (Nat.le_of_ble_eq_true rfl) ?_
  refine gr_aload_n dX4_find_0 rfl rfl ?_
  refine gr_iload_n dX4_find_1 rfl rfl ?_
  refine gq_putI q_38_0 rfl rfl fl_X4_67 dX4_find_2 h (fun m1 h => ?_)
  refine gr_aload_n dX4_find_5 rfl rfl ?_
  refine gr_getR q_38_1 fl_X4_7 dX4_find_6 ?_
  refine gr_iload_n dX4_find_9 rfl rfl ?_
  refine gr_dup2 dX4_find_10 rfl rfl ?_
  refine gq_iaload s_39 dX4_find_11 h (fun x2 h => ?_)
  refine gr_iconst dX4_find_12 gk_i_1 ?_
  refine gr_iadd dX4_find_13 ?_
  refine gq_iastore s_39 dX4_find_14 h (fun m3 h => ?_)
  refine gr_bipush dX4_find_15 gk_b_m3 ?_
  exact gq_retIM dX4_find_17 rfl h
def L_X4_row_34 (n : Nat) (a1 : Int32) (a2 : Int32) (k : gn_M → Option (Int32 × gn_M)) : Nat → Int32 → gn_M → Option (Int32 × gn_M)
  | 0, _, _ => none
  | f + 1, v3, m => (if v3 < (40 : Int32) then gn_wr m 41 240 (((40 : Int32) * a1) + v3) (0 : Int32) (fun m4 => L_X4_row_34 n a1 a2 k f (v3 + (1 : Int32)) m4) else k m)
set_option maxRecDepth 100000 in
set_option maxHeartbeats 4000000 in
theorem l_X4_row_34 {n : Nat} {a1 : Int32} {a2 : Int32} {k : gn_M → Option (Int32 × gn_M)} {v : Int32 × gn_M} (hk : ∀ (m1 : gn_M), k m1 = some v → gn_Go RX4 cX4_row 4 2 42 (some .int) none 58 [none, none, some (.int a2), none] [] m1 (some (.int v.1)) v.2) : ∀ (f : Nat) (v3 : Int32) (m : gn_M), L_X4_row_34 n a1 a2 k f v3 m = some v → gn_Go RX4 cX4_row 4 2 42 (some .int) none 34 [some (.ref 38), some (.int a1), some (.int a2), some (.int v3)] [] m (some (.int v.1)) v.2 := by
  intro f
  induction f with
  | zero =>
    intro v3 m h
    cases h
  | succ f ih =>
    intro v3 m h
    rw [L_X4_row_34] at h
    refine gr_iload_n dX4_row_34 rfl rfl ?_
    refine gr_bipush dX4_row_35 gk_b_40 ?_
    refine gr_icmp_ge (tgt := 58) dX4_row_37 (by decide) h (fun _ h => ?_) (fun _ h => ?_)
    · refine gr_aload_n dX4_row_40 rfl rfl ?_
      refine gr_getR q_38_6 fl_X4_20 dX4_row_41 ?_
      refine gr_bipush dX4_row_44 gk_b_40 ?_
      refine gr_iload_n dX4_row_46 rfl rfl ?_
      refine gr_imul dX4_row_47 ?_
      refine gr_iload_n dX4_row_48 rfl rfl ?_
      refine gr_iadd dX4_row_49 ?_
      refine gr_iconst dX4_row_50 gk_i_0 ?_
      refine gq_iastore s_41 dX4_row_51 h (fun m4 h => ?_)
      refine gr_iinc (lv' := [some (.ref 38), some (.int a1), some (.int a2), some (.int (v3 + (1 : Int32)))]) dX4_row_52 rfl gk_i_1 (by decide) rfl ?_
      refine gr_goto (tgt := 34) dX4_row_55 (by decide) ?_
      exact ih _ _ h
    · refine gn_wkn [false, false, true, false] rfl ?_
      exact hk _ h
def f_X4_row (n : Nat) (m : gn_M) (p0 : Int32) (p1 : Int32) : Option (Int32 × gn_M) := (f_X4_isRow p0).bind (fun x1 => (if x1 = 0 then some ((-1 : Int32), m) else (if (40 : Int32) < p1 then some ((-1 : Int32), m) else (if p1 < 0 then (f_X4_find m (5 : Int32)).bind (fun x2 => some (x2.1, x2.2)) else gn_wr m 40 6 p0 p1 (fun m3 => L_X4_row_34 n p0 p1 (fun (m5 : gn_M) => some (p1, m5)) n (0 : Int32) m3)))))
set_option maxRecDepth 100000 in
set_option maxHeartbeats 4000000 in
theorem c_X4_row {n : Nat} {m : gn_M} {p0 : Int32} {p1 : Int32} {v : Int32 × gn_M} (h : f_X4_row n m p0 p1 = some v) : gn_Cl yX4_row cX4_row 4 (some .int) 2 42 [.ref 38, .int p0, .int p1] m (some (.int v.1)) v.2 := by
  rw [f_X4_row] at h
  refine gn_met (lv := [some (.ref 38), some (.int p0), some (.int p1), none]) pl_X4 rfl rfl (Nat.le_of_ble_eq_true rfl) ?_
  refine gr_iload_n dX4_row_0 rfl rfl ?_
  obtain ⟨x1, hx1, h⟩ := gn_bd h
  refine gc_SI (c_X4_isRow hx1) my_X4_isRow ms_X4_isRow ml_X4_81 rfl rfl ⟨Nat.le_of_ble_eq_true rfl, Nat.le_of_ble_eq_true rfl⟩ (Nat.le_of_ble_eq_true rfl) dX4_row_1 (fun fx1 => ?_)
  refine gr_if_eq (tgt := 13) dX4_row_4 (by decide) h (fun _ h => ?_) (fun _ h => ?_)
  · refine gr_iconst dX4_row_13 gk_i_m1 ?_
    exact gq_retIM dX4_row_14 rfl h
  · refine gr_iload_n dX4_row_7 rfl rfl ?_
    refine gr_bipush dX4_row_8 gk_b_40 ?_
    refine gr_icmp_le (tgt := 15) dX4_row_10 (by decide) h (fun _ h => ?_) (fun _ h => ?_)
    · refine gr_iconst dX4_row_13 gk_i_m1 ?_
      exact gq_retIM dX4_row_14 rfl h
    · refine gr_iload_n dX4_row_15 rfl rfl ?_
      refine gr_if_ge (tgt := 25) dX4_row_16 (by decide) h (fun _ h => ?_) (fun _ h => ?_)
      · refine gr_aload_n dX4_row_19 rfl rfl ?_
        refine gr_iconst dX4_row_20 gk_i_5 ?_
        obtain ⟨x2, hx2, h⟩ := gn_bd h
        refine gc_VI (c_X4_find hx2) my_X4_find mv_X4_find ob_38 ml_X4_85 rfl rfl ⟨Nat.le_of_ble_eq_true rfl, Nat.le_of_ble_eq_true rfl⟩ (Nat.le_of_ble_eq_true rfl) dX4_row_21 (fun fx2 => ?_)
        exact gq_retIM dX4_row_24 rfl h
      · refine gr_aload_n dX4_row_25 rfl rfl ?_
        refine gr_getR q_38_5 fl_X4_17 dX4_row_26 ?_
        refine gr_iload_n dX4_row_29 rfl rfl ?_
        refine gr_iload_n dX4_row_30 rfl rfl ?_
        refine gq_iastore s_40 dX4_row_31 h (fun m3 h => ?_)
        refine gr_iconst dX4_row_32 gk_i_0 ?_
        refine gr_istore_n (lv' := [some (.ref 38), some (.int p0), some (.int p1), some (.int (0 : Int32))]) dX4_row_33 rfl (by decide) rfl ?_
        refine l_X4_row_34 (fun m5 h => ?_) _ _ _ h
        refine gr_iload_n dX4_row_58 rfl rfl ?_
        exact gq_retIM dX4_row_59 rfl h
def f_X4_told (m : gn_M) (p0 : Int32) : Option (Int32 × gn_M) := gn_pf m 38 2 p0 (fun m1 => some ((1 : Int32), m1))
set_option maxRecDepth 100000 in
set_option maxHeartbeats 4000000 in
theorem c_X4_told {m : gn_M} {p0 : Int32} {v : Int32 × gn_M} (h : f_X4_told m p0 = some v) : gn_Cl yX4_told cX4_told 2 (some .int) 0 0 [.ref 38, .int p0] m (some (.int v.1)) v.2 := by
  rw [f_X4_told] at h
  refine gn_met (lv := [some (.ref 38), some (.int p0)]) pl_X4 rfl rfl (Nat.le_of_ble_eq_true rfl) ?_
  refine gr_aload_n dX4_told_0 rfl rfl ?_
  refine gr_iload_n dX4_told_1 rfl rfl ?_
  refine gq_putI q_38_2 rfl rfl fl_X4_71 dX4_told_2 h (fun m1 h => ?_)
  refine gr_iconst dX4_told_5 gk_i_1 ?_
  exact gq_retIM dX4_told_6 rfl h
def f_X4_lay (m : gn_M) (p0 : Int32) (p1 : Int32) (p2 : Int32) : Option (Int32 × gn_M) := (f_X4_isRow p0).bind (fun x1 => (if x1 = 0 then some ((-1 : Int32), m) else gn_rd m 40 6 p0 (fun x2 => (if x2 < 0 then (f_X4_find m (1 : Int32)).bind (fun x3 => some (x3.1, x3.2)) else gn_rd m 40 6 p0 (fun x4 => (f_X4_in p1 (0 : Int32) (x4 - (1 : Int32))).bind (fun x5 => (if x5 = 0 then (f_X4_find m (2 : Int32)).bind (fun x6 => some (x6.1, x6.2)) else gn_rd m 41 240 (((40 : Int32) * p0) + p1) (fun x7 => gn_wr m 41 240 (((40 : Int32) * p0) + p1) p2 (fun m8 => (f_X4_told m8 x7).bind (fun x9 => some (x9.1, x9.2)))))))))))
set_option maxRecDepth 100000 in
set_option maxHeartbeats 4000000 in
theorem c_X4_lay {m : gn_M} {p0 : Int32} {p1 : Int32} {p2 : Int32} {v : Int32 × gn_M} (h : f_X4_lay m p0 p1 p2 = some v) : gn_Cl yX4_lay cX4_lay 5 (some .int) 2 42 [.ref 38, .int p0, .int p1, .int p2] m (some (.int v.1)) v.2 := by
  rw [f_X4_lay] at h
  refine gn_met (lv := [some (.ref 38), some (.int p0), some (.int p1), some (.int p2), none]) pl_X4 rfl rfl (Nat.le_of_ble_eq_true rfl) ?_
  refine gr_iload_n dX4_lay_0 rfl rfl ?_
  obtain ⟨x1, hx1, h⟩ := gn_bd h
  refine gc_SI (c_X4_isRow hx1) my_X4_isRow ms_X4_isRow ml_X4_81 rfl rfl ⟨Nat.le_of_ble_eq_true rfl, Nat.le_of_ble_eq_true rfl⟩ (Nat.le_of_ble_eq_true rfl) dX4_lay_1 (fun fx1 => ?_)
  refine gr_if_ne (tgt := 9) dX4_lay_4 (by decide) h (fun _ h => ?_) (fun _ h => ?_)
  · refine gr_iconst dX4_lay_7 gk_i_m1 ?_
    exact gq_retIM dX4_lay_8 rfl h
  · refine gr_aload_n dX4_lay_9 rfl rfl ?_
    refine gr_getR q_38_5 fl_X4_17 dX4_lay_10 ?_
    refine gr_iload_n dX4_lay_13 rfl rfl ?_
    refine gq_iaload s_40 dX4_lay_14 h (fun x2 h => ?_)
    refine gr_if_ge (tgt := 24) dX4_lay_15 (by decide) h (fun _ h => ?_) (fun _ h => ?_)
    · refine gr_aload_n dX4_lay_18 rfl rfl ?_
      refine gr_iconst dX4_lay_19 gk_i_1 ?_
      obtain ⟨x3, hx3, h⟩ := gn_bd h
      refine gc_VI (c_X4_find hx3) my_X4_find mv_X4_find ob_38 ml_X4_85 rfl rfl ⟨Nat.le_of_ble_eq_true rfl, Nat.le_of_ble_eq_true rfl⟩ (Nat.le_of_ble_eq_true rfl) dX4_lay_20 (fun fx3 => ?_)
      exact gq_retIM dX4_lay_23 rfl h
    · refine gr_iload_n dX4_lay_24 rfl rfl ?_
      refine gr_iconst dX4_lay_25 gk_i_0 ?_
      refine gr_aload_n dX4_lay_26 rfl rfl ?_
      refine gr_getR q_38_5 fl_X4_17 dX4_lay_27 ?_
      refine gr_iload_n dX4_lay_30 rfl rfl ?_
      refine gq_iaload s_40 dX4_lay_31 h (fun x4 h => ?_)
      refine gr_iconst dX4_lay_32 gk_i_1 ?_
      refine gr_isub dX4_lay_33 ?_
      obtain ⟨x5, hx5, h⟩ := gn_bd h
      refine gc_SI (c_X4_in hx5) my_X4_in ms_X4_in ml_X4_77 rfl rfl ⟨Nat.le_of_ble_eq_true rfl, Nat.le_of_ble_eq_true rfl⟩ (Nat.le_of_ble_eq_true rfl) dX4_lay_34 (fun fx5 => ?_)
      refine gr_if_ne (tgt := 46) dX4_lay_37 (by decide) h (fun _ h => ?_) (fun _ h => ?_)
      · refine gr_aload_n dX4_lay_40 rfl rfl ?_
        refine gr_iconst dX4_lay_41 gk_i_2 ?_
        obtain ⟨x6, hx6, h⟩ := gn_bd h
        refine gc_VI (c_X4_find hx6) my_X4_find mv_X4_find ob_38 ml_X4_85 rfl rfl ⟨Nat.le_of_ble_eq_true rfl, Nat.le_of_ble_eq_true rfl⟩ (Nat.le_of_ble_eq_true rfl) dX4_lay_42 (fun fx6 => ?_)
        exact gq_retIM dX4_lay_45 rfl h
      · refine gr_aload_n dX4_lay_46 rfl rfl ?_
        refine gr_getR q_38_6 fl_X4_20 dX4_lay_47 ?_
        refine gr_bipush dX4_lay_50 gk_b_40 ?_
        refine gr_iload_n dX4_lay_52 rfl rfl ?_
        refine gr_imul dX4_lay_53 ?_
        refine gr_iload_n dX4_lay_54 rfl rfl ?_
        refine gr_iadd dX4_lay_55 ?_
        refine gq_iaload s_41 dX4_lay_56 h (fun x7 h => ?_)
        refine gr_istore (lv' := [some (.ref 38), some (.int p0), some (.int p1), some (.int p2), some (.int x7)]) dX4_lay_57 (by decide) rfl ?_
        refine gr_aload_n dX4_lay_59 rfl rfl ?_
        refine gr_getR q_38_6 fl_X4_20 dX4_lay_60 ?_
        refine gr_bipush dX4_lay_63 gk_b_40 ?_
        refine gr_iload_n dX4_lay_65 rfl rfl ?_
        refine gr_imul dX4_lay_66 ?_
        refine gr_iload_n dX4_lay_67 rfl rfl ?_
        refine gr_iadd dX4_lay_68 ?_
        refine gr_iload_n dX4_lay_69 rfl rfl ?_
        refine gq_iastore s_41 dX4_lay_70 h (fun m8 h => ?_)
        refine gr_aload_n dX4_lay_71 rfl rfl ?_
        refine gr_iload dX4_lay_72 rfl ?_
        obtain ⟨x9, hx9, h⟩ := gn_bd h
        refine gc_VI (c_X4_told hx9) my_X4_told mv_X4_told ob_38 ml_X4_89 rfl rfl ⟨Nat.le_of_ble_eq_true rfl, Nat.le_of_ble_eq_true rfl⟩ (Nat.le_of_ble_eq_true rfl) dX4_lay_74 (fun fx9 => ?_)
        exact gq_retIM dX4_lay_77 rfl h
def f_X4_at (m : gn_M) (p0 : Int32) (p1 : Int32) : Option (Int32 × gn_M) := (f_X4_isRow p0).bind (fun x1 => (if x1 = 0 then some ((-1 : Int32), m) else gn_rd m 40 6 p0 (fun x2 => (if x2 < 0 then (f_X4_find m (1 : Int32)).bind (fun x3 => some (x3.1, x3.2)) else gn_rd m 40 6 p0 (fun x4 => (f_X4_in p1 (0 : Int32) (x4 - (1 : Int32))).bind (fun x5 => (if x5 = 0 then (f_X4_find m (2 : Int32)).bind (fun x6 => some (x6.1, x6.2)) else gn_rd m 41 240 (((40 : Int32) * p0) + p1) (fun x7 => (f_X4_told m x7).bind (fun x8 => some (x8.1, x8.2))))))))))
set_option maxRecDepth 100000 in
set_option maxHeartbeats 4000000 in
theorem c_X4_at {m : gn_M} {p0 : Int32} {p1 : Int32} {v : Int32 × gn_M} (h : f_X4_at m p0 p1 = some v) : gn_Cl yX4_at cX4_at 3 (some .int) 2 42 [.ref 38, .int p0, .int p1] m (some (.int v.1)) v.2 := by
  rw [f_X4_at] at h
  refine gn_met (lv := [some (.ref 38), some (.int p0), some (.int p1)]) pl_X4 rfl rfl (Nat.le_of_ble_eq_true rfl) ?_
  refine gr_iload_n dX4_at_0 rfl rfl ?_
  obtain ⟨x1, hx1, h⟩ := gn_bd h
  refine gc_SI (c_X4_isRow hx1) my_X4_isRow ms_X4_isRow ml_X4_81 rfl rfl ⟨Nat.le_of_ble_eq_true rfl, Nat.le_of_ble_eq_true rfl⟩ (Nat.le_of_ble_eq_true rfl) dX4_at_1 (fun fx1 => ?_)
  refine gr_if_ne (tgt := 9) dX4_at_4 (by decide) h (fun _ h => ?_) (fun _ h => ?_)
  · refine gr_iconst dX4_at_7 gk_i_m1 ?_
    exact gq_retIM dX4_at_8 rfl h
  · refine gr_aload_n dX4_at_9 rfl rfl ?_
    refine gr_getR q_38_5 fl_X4_17 dX4_at_10 ?_
    refine gr_iload_n dX4_at_13 rfl rfl ?_
    refine gq_iaload s_40 dX4_at_14 h (fun x2 h => ?_)
    refine gr_if_ge (tgt := 24) dX4_at_15 (by decide) h (fun _ h => ?_) (fun _ h => ?_)
    · refine gr_aload_n dX4_at_18 rfl rfl ?_
      refine gr_iconst dX4_at_19 gk_i_1 ?_
      obtain ⟨x3, hx3, h⟩ := gn_bd h
      refine gc_VI (c_X4_find hx3) my_X4_find mv_X4_find ob_38 ml_X4_85 rfl rfl ⟨Nat.le_of_ble_eq_true rfl, Nat.le_of_ble_eq_true rfl⟩ (Nat.le_of_ble_eq_true rfl) dX4_at_20 (fun fx3 => ?_)
      exact gq_retIM dX4_at_23 rfl h
    · refine gr_iload_n dX4_at_24 rfl rfl ?_
      refine gr_iconst dX4_at_25 gk_i_0 ?_
      refine gr_aload_n dX4_at_26 rfl rfl ?_
      refine gr_getR q_38_5 fl_X4_17 dX4_at_27 ?_
      refine gr_iload_n dX4_at_30 rfl rfl ?_
      refine gq_iaload s_40 dX4_at_31 h (fun x4 h => ?_)
      refine gr_iconst dX4_at_32 gk_i_1 ?_
      refine gr_isub dX4_at_33 ?_
      obtain ⟨x5, hx5, h⟩ := gn_bd h
      refine gc_SI (c_X4_in hx5) my_X4_in ms_X4_in ml_X4_77 rfl rfl ⟨Nat.le_of_ble_eq_true rfl, Nat.le_of_ble_eq_true rfl⟩ (Nat.le_of_ble_eq_true rfl) dX4_at_34 (fun fx5 => ?_)
      refine gr_if_eq (tgt := 58) dX4_at_37 (by decide) h (fun _ h => ?_) (fun _ h => ?_)
      · refine gr_aload_n dX4_at_58 rfl rfl ?_
        refine gr_iconst dX4_at_59 gk_i_2 ?_
        obtain ⟨x6, hx6, h⟩ := gn_bd h
        refine gc_VI (c_X4_find hx6) my_X4_find mv_X4_find ob_38 ml_X4_85 rfl rfl ⟨Nat.le_of_ble_eq_true rfl, Nat.le_of_ble_eq_true rfl⟩ (Nat.le_of_ble_eq_true rfl) dX4_at_60 (fun fx6 => ?_)
        exact gq_retIM dX4_at_63 rfl h
      · refine gr_aload_n dX4_at_40 rfl rfl ?_
        refine gr_aload_n dX4_at_41 rfl rfl ?_
        refine gr_getR q_38_6 fl_X4_20 dX4_at_42 ?_
        refine gr_bipush dX4_at_45 gk_b_40 ?_
        refine gr_iload_n dX4_at_47 rfl rfl ?_
        refine gr_imul dX4_at_48 ?_
        refine gr_iload_n dX4_at_49 rfl rfl ?_
        refine gr_iadd dX4_at_50 ?_
        refine gq_iaload s_41 dX4_at_51 h (fun x7 h => ?_)
        obtain ⟨x8, hx8, h⟩ := gn_bd h
        refine gc_VI (c_X4_told hx8) my_X4_told mv_X4_told ob_38 ml_X4_89 rfl rfl ⟨Nat.le_of_ble_eq_true rfl, Nat.le_of_ble_eq_true rfl⟩ (Nat.le_of_ble_eq_true rfl) dX4_at_52 (fun fx8 => ?_)
        refine gr_goto (tgt := 63) dX4_at_55 (by decide) ?_
        exact gq_retIM dX4_at_63 rfl h
def f_X4_tear (m : gn_M) (p0 : Int32) : Option (Int32 × gn_M) := (f_X4_isRow p0).bind (fun x1 => (if x1 = 0 then some ((-1 : Int32), m) else gn_rd m 40 6 p0 (fun x2 => (if x2 < 0 then (f_X4_find m (1 : Int32)).bind (fun x3 => some (x3.1, x3.2)) else gn_wr m 40 6 p0 (-1 : Int32) (fun m4 => some ((1 : Int32), m4))))))
set_option maxRecDepth 100000 in
set_option maxHeartbeats 4000000 in
theorem c_X4_tear {m : gn_M} {p0 : Int32} {v : Int32 × gn_M} (h : f_X4_tear m p0 = some v) : gn_Cl yX4_tear cX4_tear 2 (some .int) 2 42 [.ref 38, .int p0] m (some (.int v.1)) v.2 := by
  rw [f_X4_tear] at h
  refine gn_met (lv := [some (.ref 38), some (.int p0)]) pl_X4 rfl rfl (Nat.le_of_ble_eq_true rfl) ?_
  refine gr_iload_n dX4_tear_0 rfl rfl ?_
  obtain ⟨x1, hx1, h⟩ := gn_bd h
  refine gc_SI (c_X4_isRow hx1) my_X4_isRow ms_X4_isRow ml_X4_81 rfl rfl ⟨Nat.le_of_ble_eq_true rfl, Nat.le_of_ble_eq_true rfl⟩ (Nat.le_of_ble_eq_true rfl) dX4_tear_1 (fun fx1 => ?_)
  refine gr_if_ne (tgt := 9) dX4_tear_4 (by decide) h (fun _ h => ?_) (fun _ h => ?_)
  · refine gr_iconst dX4_tear_7 gk_i_m1 ?_
    exact gq_retIM dX4_tear_8 rfl h
  · refine gr_aload_n dX4_tear_9 rfl rfl ?_
    refine gr_getR q_38_5 fl_X4_17 dX4_tear_10 ?_
    refine gr_iload_n dX4_tear_13 rfl rfl ?_
    refine gq_iaload s_40 dX4_tear_14 h (fun x2 h => ?_)
    refine gr_if_ge (tgt := 24) dX4_tear_15 (by decide) h (fun _ h => ?_) (fun _ h => ?_)
    · refine gr_aload_n dX4_tear_18 rfl rfl ?_
      refine gr_iconst dX4_tear_19 gk_i_1 ?_
      obtain ⟨x3, hx3, h⟩ := gn_bd h
      refine gc_VI (c_X4_find hx3) my_X4_find mv_X4_find ob_38 ml_X4_85 rfl rfl ⟨Nat.le_of_ble_eq_true rfl, Nat.le_of_ble_eq_true rfl⟩ (Nat.le_of_ble_eq_true rfl) dX4_tear_20 (fun fx3 => ?_)
      exact gq_retIM dX4_tear_23 rfl h
    · refine gr_aload_n dX4_tear_24 rfl rfl ?_
      refine gr_getR q_38_5 fl_X4_17 dX4_tear_25 ?_
      refine gr_iload_n dX4_tear_28 rfl rfl ?_
      refine gr_iconst dX4_tear_29 gk_i_m1 ?_
      refine gq_iastore s_40 dX4_tear_30 h (fun m4 h => ?_)
      refine gr_iconst dX4_tear_31 gk_i_1 ?_
      exact gq_retIM dX4_tear_32 rfl h
def L_X4_copy_96 (n : Nat) (a1 : Int32) (a2 : Int32) (a3 : Int32) (a4 : Int32) (a5 : Int32) (k : gn_M → Option (Int32 × gn_M)) : Nat → Int32 → gn_M → Option (Int32 × gn_M)
  | 0, _, _ => none
  | f + 1, v6, m => (if v6 < a5 then gn_rd m 41 240 ((((40 : Int32) * a1) + a2) + v6) (fun x14 => gn_wr m 44 40 v6 x14 (fun m15 => L_X4_copy_96 n a1 a2 a3 a4 a5 k f (v6 + (1 : Int32)) m15)) else k m)
set_option maxRecDepth 100000 in
set_option maxHeartbeats 4000000 in
theorem l_X4_copy_96 {n : Nat} {a1 : Int32} {a2 : Int32} {a3 : Int32} {a4 : Int32} {a5 : Int32} {k : gn_M → Option (Int32 × gn_M)} {v : Int32 × gn_M} (hk : ∀ (m1 : gn_M), k m1 = some v → gn_Go RX4 cX4_copy 7 2 42 (some .int) none 130 [some (.ref 38), none, none, some (.int a3), some (.int a4), some (.int a5), none] [] m1 (some (.int v.1)) v.2) : ∀ (f : Nat) (v6 : Int32) (m : gn_M), L_X4_copy_96 n a1 a2 a3 a4 a5 k f v6 m = some v → gn_Go RX4 cX4_copy 7 2 42 (some .int) none 96 [some (.ref 38), some (.int a1), some (.int a2), some (.int a3), some (.int a4), some (.int a5), some (.int v6)] [] m (some (.int v.1)) v.2 := by
  intro f
  induction f with
  | zero =>
    intro v6 m h
    cases h
  | succ f ih =>
    intro v6 m h
    rw [L_X4_copy_96] at h
    refine gr_iload dX4_copy_96 rfl ?_
    refine gr_iload dX4_copy_98 rfl ?_
    refine gr_icmp_ge (tgt := 130) dX4_copy_100 (by decide) h (fun _ h => ?_) (fun _ h => ?_)
    · refine gr_aload_n dX4_copy_103 rfl rfl ?_
      refine gr_getR q_38_9 fl_X4_30 dX4_copy_104 ?_
      refine gr_iload dX4_copy_107 rfl ?_
      refine gr_aload_n dX4_copy_109 rfl rfl ?_
      refine gr_getR q_38_6 fl_X4_20 dX4_copy_110 ?_
      refine gr_bipush dX4_copy_113 gk_b_40 ?_
      refine gr_iload_n dX4_copy_115 rfl rfl ?_
      refine gr_imul dX4_copy_116 ?_
      refine gr_iload_n dX4_copy_117 rfl rfl ?_
      refine gr_iadd dX4_copy_118 ?_
      refine gr_iload dX4_copy_119 rfl ?_
      refine gr_iadd dX4_copy_121 ?_
      refine gq_iaload s_41 dX4_copy_122 h (fun x14 h => ?_)
      refine gq_iastore s_44 dX4_copy_123 h (fun m15 h => ?_)
      refine gr_iinc (lv' := [some (.ref 38), some (.int a1), some (.int a2), some (.int a3), some (.int a4), some (.int a5), some (.int (v6 + (1 : Int32)))]) dX4_copy_124 rfl gk_i_1 (by decide) rfl ?_
      refine gr_goto (tgt := 96) dX4_copy_127 (by decide) ?_
      exact ih _ _ h
    · refine gn_wkn [true, false, false, true, true, true, false] rfl ?_
      exact hk _ h
def L_X4_copy_133 (n : Nat) (a3 : Int32) (a4 : Int32) (a5 : Int32) (k : gn_M → Option (Int32 × gn_M)) : Nat → Int32 → gn_M → Option (Int32 × gn_M)
  | 0, _, _ => none
  | f + 1, v6, m => (if v6 < a5 then gn_rd m 44 40 v6 (fun x17 => gn_wr m 41 240 ((((40 : Int32) * a3) + a4) + v6) x17 (fun m18 => L_X4_copy_133 n a3 a4 a5 k f (v6 + (1 : Int32)) m18)) else k m)
set_option maxRecDepth 100000 in
set_option maxHeartbeats 4000000 in
theorem l_X4_copy_133 {n : Nat} {a3 : Int32} {a4 : Int32} {a5 : Int32} {k : gn_M → Option (Int32 × gn_M)} {v : Int32 × gn_M} (hk : ∀ (m1 : gn_M), k m1 = some v → gn_Go RX4 cX4_copy 7 2 42 (some .int) none 168 [none, none, none, none, none, none, none] [] m1 (some (.int v.1)) v.2) : ∀ (f : Nat) (v6 : Int32) (m : gn_M), L_X4_copy_133 n a3 a4 a5 k f v6 m = some v → gn_Go RX4 cX4_copy 7 2 42 (some .int) none 133 [some (.ref 38), none, none, some (.int a3), some (.int a4), some (.int a5), some (.int v6)] [] m (some (.int v.1)) v.2 := by
  intro f
  induction f with
  | zero =>
    intro v6 m h
    cases h
  | succ f ih =>
    intro v6 m h
    rw [L_X4_copy_133] at h
    refine gr_iload dX4_copy_133 rfl ?_
    refine gr_iload dX4_copy_135 rfl ?_
    refine gr_icmp_ge (tgt := 168) dX4_copy_137 (by decide) h (fun _ h => ?_) (fun _ h => ?_)
    · refine gr_aload_n dX4_copy_140 rfl rfl ?_
      refine gr_getR q_38_6 fl_X4_20 dX4_copy_141 ?_
      refine gr_bipush dX4_copy_144 gk_b_40 ?_
      refine gr_iload_n dX4_copy_146 rfl rfl ?_
      refine gr_imul dX4_copy_147 ?_
      refine gr_iload dX4_copy_148 rfl ?_
      refine gr_iadd dX4_copy_150 ?_
      refine gr_iload dX4_copy_151 rfl ?_
      refine gr_iadd dX4_copy_153 ?_
      refine gr_aload_n dX4_copy_154 rfl rfl ?_
      refine gr_getR q_38_9 fl_X4_30 dX4_copy_155 ?_
      refine gr_iload dX4_copy_158 rfl ?_
      refine gq_iaload s_44 dX4_copy_160 h (fun x17 h => ?_)
      refine gq_iastore s_41 dX4_copy_161 h (fun m18 h => ?_)
      refine gr_iinc (lv' := [some (.ref 38), none, none, some (.int a3), some (.int a4), some (.int a5), some (.int (v6 + (1 : Int32)))]) dX4_copy_162 rfl gk_i_1 (by decide) rfl ?_
      refine gr_goto (tgt := 133) dX4_copy_165 (by decide) ?_
      exact ih _ _ h
    · refine gn_wkn [false, false, false, false, false, false, false] rfl ?_
      exact hk _ h
def f_X4_copy (n : Nat) (m : gn_M) (p0 : Int32) (p1 : Int32) (p2 : Int32) (p3 : Int32) (p4 : Int32) : Option (Int32 × gn_M) := (f_X4_isRow p0).bind (fun x1 => (if x1 = 0 then some ((-1 : Int32), m) else (f_X4_isRow p2).bind (fun x2 => (if x2 = 0 then some ((-1 : Int32), m) else (if p4 < 0 then (f_X4_find m (5 : Int32)).bind (fun x3 => some (x3.1, x3.2)) else gn_rd m 40 6 p0 (fun x4 => (if x4 < 0 then (f_X4_find m (1 : Int32)).bind (fun x5 => some (x5.1, x5.2)) else gn_rd m 40 6 p2 (fun x6 => (if x6 < 0 then (f_X4_find m (1 : Int32)).bind (fun x7 => some (x7.1, x7.2)) else (if p1 < 0 then (f_X4_find m (2 : Int32)).bind (fun x8 => some (x8.1, x8.2)) else gn_rd m 40 6 p0 (fun x9 => (if (x9 - p4) < p1 then (f_X4_find m (2 : Int32)).bind (fun x10 => some (x10.1, x10.2)) else (if p3 < 0 then (f_X4_find m (2 : Int32)).bind (fun x11 => some (x11.1, x11.2)) else gn_rd m 40 6 p2 (fun x12 => (if (x12 - p4) < p3 then (f_X4_find m (2 : Int32)).bind (fun x13 => some (x13.1, x13.2)) else L_X4_copy_96 n p0 p1 p2 p3 p4 (fun (m16 : gn_M) => L_X4_copy_133 n p2 p3 p4 (fun (m19 : gn_M) => some ((1 : Int32), m19)) n (0 : Int32) m16) n (0 : Int32) m)))))))))))))))
set_option maxRecDepth 100000 in
set_option maxHeartbeats 4000000 in
theorem c_X4_copy {n : Nat} {m : gn_M} {p0 : Int32} {p1 : Int32} {p2 : Int32} {p3 : Int32} {p4 : Int32} {v : Int32 × gn_M} (h : f_X4_copy n m p0 p1 p2 p3 p4 = some v) : gn_Cl yX4_copy cX4_copy 7 (some .int) 2 42 [.ref 38, .int p0, .int p1, .int p2, .int p3, .int p4] m (some (.int v.1)) v.2 := by
  rw [f_X4_copy] at h
  refine gn_met (lv := [some (.ref 38), some (.int p0), some (.int p1), some (.int p2), some (.int p3), some (.int p4), none]) pl_X4 rfl rfl (Nat.le_of_ble_eq_true rfl) ?_
  refine gr_iload_n dX4_copy_0 rfl rfl ?_
  obtain ⟨x1, hx1, h⟩ := gn_bd h
  refine gc_SI (c_X4_isRow hx1) my_X4_isRow ms_X4_isRow ml_X4_81 rfl rfl ⟨Nat.le_of_ble_eq_true rfl, Nat.le_of_ble_eq_true rfl⟩ (Nat.le_of_ble_eq_true rfl) dX4_copy_1 (fun fx1 => ?_)
  refine gr_if_eq (tgt := 14) dX4_copy_4 (by decide) h (fun _ h => ?_) (fun _ h => ?_)
  · refine gr_iconst dX4_copy_14 gk_i_m1 ?_
    exact gq_retIM dX4_copy_15 rfl h
  · refine gr_iload_n dX4_copy_7 rfl rfl ?_
    obtain ⟨x2, hx2, h⟩ := gn_bd h
    refine gc_SI (c_X4_isRow hx2) my_X4_isRow ms_X4_isRow ml_X4_81 rfl rfl ⟨Nat.le_of_ble_eq_true rfl, Nat.le_of_ble_eq_true rfl⟩ (Nat.le_of_ble_eq_true rfl) dX4_copy_8 (fun fx2 => ?_)
    refine gr_if_ne (tgt := 16) dX4_copy_11 (by decide) h (fun _ h => ?_) (fun _ h => ?_)
    · refine gr_iconst dX4_copy_14 gk_i_m1 ?_
      exact gq_retIM dX4_copy_15 rfl h
    · refine gr_iload dX4_copy_16 rfl ?_
      refine gr_if_ge (tgt := 27) dX4_copy_18 (by decide) h (fun _ h => ?_) (fun _ h => ?_)
      · refine gr_aload_n dX4_copy_21 rfl rfl ?_
        refine gr_iconst dX4_copy_22 gk_i_5 ?_
        obtain ⟨x3, hx3, h⟩ := gn_bd h
        refine gc_VI (c_X4_find hx3) my_X4_find mv_X4_find ob_38 ml_X4_85 rfl rfl ⟨Nat.le_of_ble_eq_true rfl, Nat.le_of_ble_eq_true rfl⟩ (Nat.le_of_ble_eq_true rfl) dX4_copy_23 (fun fx3 => ?_)
        exact gq_retIM dX4_copy_26 rfl h
      · refine gr_aload_n dX4_copy_27 rfl rfl ?_
        refine gr_getR q_38_5 fl_X4_17 dX4_copy_28 ?_
        refine gr_iload_n dX4_copy_31 rfl rfl ?_
        refine gq_iaload s_40 dX4_copy_32 h (fun x4 h => ?_)
        refine gr_if_lt (tgt := 45) dX4_copy_33 (by decide) h (fun _ h => ?_) (fun _ h => ?_)
        · refine gr_aload_n dX4_copy_45 rfl rfl ?_
          refine gr_iconst dX4_copy_46 gk_i_1 ?_
          obtain ⟨x5, hx5, h⟩ := gn_bd h
          refine gc_VI (c_X4_find hx5) my_X4_find mv_X4_find ob_38 ml_X4_85 rfl rfl ⟨Nat.le_of_ble_eq_true rfl, Nat.le_of_ble_eq_true rfl⟩ (Nat.le_of_ble_eq_true rfl) dX4_copy_47 (fun fx5 => ?_)
          exact gq_retIM dX4_copy_50 rfl h
        · refine gr_aload_n dX4_copy_36 rfl rfl ?_
          refine gr_getR q_38_5 fl_X4_17 dX4_copy_37 ?_
          refine gr_iload_n dX4_copy_40 rfl rfl ?_
          refine gq_iaload s_40 dX4_copy_41 h (fun x6 h => ?_)
          refine gr_if_ge (tgt := 51) dX4_copy_42 (by decide) h (fun _ h => ?_) (fun _ h => ?_)
          · refine gr_aload_n dX4_copy_45 rfl rfl ?_
            refine gr_iconst dX4_copy_46 gk_i_1 ?_
            obtain ⟨x7, hx7, h⟩ := gn_bd h
            refine gc_VI (c_X4_find hx7) my_X4_find mv_X4_find ob_38 ml_X4_85 rfl rfl ⟨Nat.le_of_ble_eq_true rfl, Nat.le_of_ble_eq_true rfl⟩ (Nat.le_of_ble_eq_true rfl) dX4_copy_47 (fun fx7 => ?_)
            exact gq_retIM dX4_copy_50 rfl h
          · refine gr_iload_n dX4_copy_51 rfl rfl ?_
            refine gr_if_lt (tgt := 87) dX4_copy_52 (by decide) h (fun _ h => ?_) (fun _ h => ?_)
            · refine gr_aload_n dX4_copy_87 rfl rfl ?_
              refine gr_iconst dX4_copy_88 gk_i_2 ?_
              obtain ⟨x8, hx8, h⟩ := gn_bd h
              refine gc_VI (c_X4_find hx8) my_X4_find mv_X4_find ob_38 ml_X4_85 rfl rfl ⟨Nat.le_of_ble_eq_true rfl, Nat.le_of_ble_eq_true rfl⟩ (Nat.le_of_ble_eq_true rfl) dX4_copy_89 (fun fx8 => ?_)
              exact gq_retIM dX4_copy_92 rfl h
            · refine gr_iload_n dX4_copy_55 rfl rfl ?_
              refine gr_aload_n dX4_copy_56 rfl rfl ?_
              refine gr_getR q_38_5 fl_X4_17 dX4_copy_57 ?_
              refine gr_iload_n dX4_copy_60 rfl rfl ?_
              refine gq_iaload s_40 dX4_copy_61 h (fun x9 h => ?_)
              refine gr_iload dX4_copy_62 rfl ?_
              refine gr_isub dX4_copy_64 ?_
              refine gr_icmp_gt (tgt := 87) dX4_copy_65 (by decide) h (fun _ h => ?_) (fun _ h => ?_)
              · refine gr_aload_n dX4_copy_87 rfl rfl ?_
                refine gr_iconst dX4_copy_88 gk_i_2 ?_
                obtain ⟨x10, hx10, h⟩ := gn_bd h
                refine gc_VI (c_X4_find hx10) my_X4_find mv_X4_find ob_38 ml_X4_85 rfl rfl ⟨Nat.le_of_ble_eq_true rfl, Nat.le_of_ble_eq_true rfl⟩ (Nat.le_of_ble_eq_true rfl) dX4_copy_89 (fun fx10 => ?_)
                exact gq_retIM dX4_copy_92 rfl h
              · refine gr_iload dX4_copy_68 rfl ?_
                refine gr_if_lt (tgt := 87) dX4_copy_70 (by decide) h (fun _ h => ?_) (fun _ h => ?_)
                · refine gr_aload_n dX4_copy_87 rfl rfl ?_
                  refine gr_iconst dX4_copy_88 gk_i_2 ?_
                  obtain ⟨x11, hx11, h⟩ := gn_bd h
                  refine gc_VI (c_X4_find hx11) my_X4_find mv_X4_find ob_38 ml_X4_85 rfl rfl ⟨Nat.le_of_ble_eq_true rfl, Nat.le_of_ble_eq_true rfl⟩ (Nat.le_of_ble_eq_true rfl) dX4_copy_89 (fun fx11 => ?_)
                  exact gq_retIM dX4_copy_92 rfl h
                · refine gr_iload dX4_copy_73 rfl ?_
                  refine gr_aload_n dX4_copy_75 rfl rfl ?_
                  refine gr_getR q_38_5 fl_X4_17 dX4_copy_76 ?_
                  refine gr_iload_n dX4_copy_79 rfl rfl ?_
                  refine gq_iaload s_40 dX4_copy_80 h (fun x12 h => ?_)
                  refine gr_iload dX4_copy_81 rfl ?_
                  refine gr_isub dX4_copy_83 ?_
                  refine gr_icmp_le (tgt := 93) dX4_copy_84 (by decide) h (fun _ h => ?_) (fun _ h => ?_)
                  · refine gr_aload_n dX4_copy_87 rfl rfl ?_
                    refine gr_iconst dX4_copy_88 gk_i_2 ?_
                    obtain ⟨x13, hx13, h⟩ := gn_bd h
                    refine gc_VI (c_X4_find hx13) my_X4_find mv_X4_find ob_38 ml_X4_85 rfl rfl ⟨Nat.le_of_ble_eq_true rfl, Nat.le_of_ble_eq_true rfl⟩ (Nat.le_of_ble_eq_true rfl) dX4_copy_89 (fun fx13 => ?_)
                    exact gq_retIM dX4_copy_92 rfl h
                  · refine gr_iconst dX4_copy_93 gk_i_0 ?_
                    refine gr_istore (lv' := [some (.ref 38), some (.int p0), some (.int p1), some (.int p2), some (.int p3), some (.int p4), some (.int (0 : Int32))]) dX4_copy_94 (by decide) rfl ?_
                    refine l_X4_copy_96 (fun m16 h => ?_) _ _ _ h
                    refine gr_iconst dX4_copy_130 gk_i_0 ?_
                    refine gr_istore (lv' := [some (.ref 38), none, none, some (.int p2), some (.int p3), some (.int p4), some (.int (0 : Int32))]) dX4_copy_131 (by decide) rfl ?_
                    refine l_X4_copy_133 (fun m19 h => ?_) _ _ _ h
                    refine gr_iconst dX4_copy_168 gk_i_1 ?_
                    exact gq_retIM dX4_copy_169 rfl h
def L_X4_mean_44 (n : Nat) (m : gn_M) (a1 : Int32) (k : Int64 → Option (Int32 × gn_M)) : Nat → Int64 → Int32 → Option (Int32 × gn_M)
  | 0, _, _ => none
  | f + 1, v2, v4 => gn_rd m 40 6 a1 (fun x6 => (if v4 < x6 then gn_rd m 41 240 (((40 : Int32) * a1) + v4) (fun x7 => L_X4_mean_44 n m a1 k f (v2 + x7.toInt64) (v4 + (1 : Int32))) else k v2))
set_option maxRecDepth 100000 in
set_option maxHeartbeats 4000000 in
theorem l_X4_mean_44 {n : Nat} {m : gn_M} {a1 : Int32} {k : Int64 → Option (Int32 × gn_M)} {v : Int32 × gn_M} (hk : ∀ (e2 : Int64), k e2 = some v → gn_Go RX4 cX4_mean 5 2 42 (some .int) none 77 [some (.ref 38), some (.int a1), some (.long e2), none, none] [] m (some (.int v.1)) v.2) : ∀ (f : Nat) (v2 : Int64) (v4 : Int32), L_X4_mean_44 n m a1 k f v2 v4 = some v → gn_Go RX4 cX4_mean 5 2 42 (some .int) none 44 [some (.ref 38), some (.int a1), some (.long v2), none, some (.int v4)] [] m (some (.int v.1)) v.2 := by
  intro f
  induction f with
  | zero =>
    intro v2 v4 h
    cases h
  | succ f ih =>
    intro v2 v4 h
    rw [L_X4_mean_44] at h
    refine gr_iload dX4_mean_44 rfl ?_
    refine gr_aload_n dX4_mean_46 rfl rfl ?_
    refine gr_getR q_38_5 fl_X4_17 dX4_mean_47 ?_
    refine gr_iload_n dX4_mean_50 rfl rfl ?_
    refine gq_iaload s_40 dX4_mean_51 h (fun x6 h => ?_)
    refine gr_icmp_ge (tgt := 77) dX4_mean_52 (by decide) h (fun _ h => ?_) (fun _ h => ?_)
    · refine gr_lload_n dX4_mean_55 rfl rfl ?_
      refine gr_aload_n dX4_mean_56 rfl rfl ?_
      refine gr_getR q_38_6 fl_X4_20 dX4_mean_57 ?_
      refine gr_bipush dX4_mean_60 gk_b_40 ?_
      refine gr_iload_n dX4_mean_62 rfl rfl ?_
      refine gr_imul dX4_mean_63 ?_
      refine gr_iload dX4_mean_64 rfl ?_
      refine gr_iadd dX4_mean_66 ?_
      refine gq_iaload s_41 dX4_mean_67 h (fun x7 h => ?_)
      refine gr_i2l dX4_mean_68 ?_
      refine gr_ladd dX4_mean_69 ?_
      refine gr_lstore_n (lv' := [some (.ref 38), some (.int a1), some (.long (v2 + x7.toInt64)), none, some (.int v4)]) dX4_mean_70 rfl (by decide) rfl ?_
      refine gr_iinc (lv' := [some (.ref 38), some (.int a1), some (.long (v2 + x7.toInt64)), none, some (.int (v4 + (1 : Int32)))]) dX4_mean_71 rfl gk_i_1 (by decide) rfl ?_
      refine gr_goto (tgt := 44) dX4_mean_74 (by decide) ?_
      exact ih _ _ h
    · refine gn_wkn [true, true, true, false, false] rfl ?_
      exact hk _ h
def f_X4_mean (n : Nat) (m : gn_M) (p0 : Int32) : Option (Int32 × gn_M) := (f_X4_isRow p0).bind (fun x1 => (if x1 = 0 then some ((-1 : Int32), m) else gn_rd m 40 6 p0 (fun x2 => (if x2 < 0 then (f_X4_find m (1 : Int32)).bind (fun x3 => some (x3.1, x3.2)) else gn_rd m 40 6 p0 (fun x4 => (if x4 = 0 then (f_X4_find m (4 : Int32)).bind (fun x5 => some (x5.1, x5.2)) else L_X4_mean_44 n m p0 (fun (e8 : Int64) => gn_rd m 40 6 p0 (fun x9 => gn_dvL x9.toInt64 ((f_X4_told m (e8 / x9.toInt64).toInt32).bind (fun x10 => some (x10.1, x10.2))))) n (0 : Int64) (0 : Int32)))))))
set_option maxRecDepth 100000 in
set_option maxHeartbeats 4000000 in
theorem c_X4_mean {n : Nat} {m : gn_M} {p0 : Int32} {v : Int32 × gn_M} (h : f_X4_mean n m p0 = some v) : gn_Cl yX4_mean cX4_mean 5 (some .int) 2 42 [.ref 38, .int p0] m (some (.int v.1)) v.2 := by
  rw [f_X4_mean] at h
  refine gn_met (lv := [some (.ref 38), some (.int p0), none, none, none]) pl_X4 rfl rfl (Nat.le_of_ble_eq_true rfl) ?_
  refine gr_iload_n dX4_mean_0 rfl rfl ?_
  obtain ⟨x1, hx1, h⟩ := gn_bd h
  refine gc_SI (c_X4_isRow hx1) my_X4_isRow ms_X4_isRow ml_X4_81 rfl rfl ⟨Nat.le_of_ble_eq_true rfl, Nat.le_of_ble_eq_true rfl⟩ (Nat.le_of_ble_eq_true rfl) dX4_mean_1 (fun fx1 => ?_)
  refine gr_if_ne (tgt := 9) dX4_mean_4 (by decide) h (fun _ h => ?_) (fun _ h => ?_)
  · refine gr_iconst dX4_mean_7 gk_i_m1 ?_
    exact gq_retIM dX4_mean_8 rfl h
  · refine gr_aload_n dX4_mean_9 rfl rfl ?_
    refine gr_getR q_38_5 fl_X4_17 dX4_mean_10 ?_
    refine gr_iload_n dX4_mean_13 rfl rfl ?_
    refine gq_iaload s_40 dX4_mean_14 h (fun x2 h => ?_)
    refine gr_if_ge (tgt := 24) dX4_mean_15 (by decide) h (fun _ h => ?_) (fun _ h => ?_)
    · refine gr_aload_n dX4_mean_18 rfl rfl ?_
      refine gr_iconst dX4_mean_19 gk_i_1 ?_
      obtain ⟨x3, hx3, h⟩ := gn_bd h
      refine gc_VI (c_X4_find hx3) my_X4_find mv_X4_find ob_38 ml_X4_85 rfl rfl ⟨Nat.le_of_ble_eq_true rfl, Nat.le_of_ble_eq_true rfl⟩ (Nat.le_of_ble_eq_true rfl) dX4_mean_20 (fun fx3 => ?_)
      exact gq_retIM dX4_mean_23 rfl h
    · refine gr_aload_n dX4_mean_24 rfl rfl ?_
      refine gr_getR q_38_5 fl_X4_17 dX4_mean_25 ?_
      refine gr_iload_n dX4_mean_28 rfl rfl ?_
      refine gq_iaload s_40 dX4_mean_29 h (fun x4 h => ?_)
      refine gr_if_ne (tgt := 39) dX4_mean_30 (by decide) h (fun _ h => ?_) (fun _ h => ?_)
      · refine gr_aload_n dX4_mean_33 rfl rfl ?_
        refine gr_iconst dX4_mean_34 gk_i_4 ?_
        obtain ⟨x5, hx5, h⟩ := gn_bd h
        refine gc_VI (c_X4_find hx5) my_X4_find mv_X4_find ob_38 ml_X4_85 rfl rfl ⟨Nat.le_of_ble_eq_true rfl, Nat.le_of_ble_eq_true rfl⟩ (Nat.le_of_ble_eq_true rfl) dX4_mean_35 (fun fx5 => ?_)
        exact gq_retIM dX4_mean_38 rfl h
      · refine gr_lconst dX4_mean_39 gk_l_0 ?_
        refine gr_lstore_n (lv' := [some (.ref 38), some (.int p0), some (.long (0 : Int64)), none, none]) dX4_mean_40 rfl (by decide) rfl ?_
        refine gr_iconst dX4_mean_41 gk_i_0 ?_
        refine gr_istore (lv' := [some (.ref 38), some (.int p0), some (.long (0 : Int64)), none, some (.int (0 : Int32))]) dX4_mean_42 (by decide) rfl ?_
        refine l_X4_mean_44 (fun e8 h => ?_) _ _ _ h
        refine gr_aload_n dX4_mean_77 rfl rfl ?_
        refine gr_lload_n dX4_mean_78 rfl rfl ?_
        refine gr_aload_n dX4_mean_79 rfl rfl ?_
        refine gr_getR q_38_5 fl_X4_17 dX4_mean_80 ?_
        refine gr_iload_n dX4_mean_83 rfl rfl ?_
        refine gq_iaload s_40 dX4_mean_84 h (fun x9 h => ?_)
        refine gr_i2l dX4_mean_85 ?_
        refine gq_ldiv dX4_mean_86 h (fun h => ?_)
        refine gr_l2i dX4_mean_87 ?_
        obtain ⟨x10, hx10, h⟩ := gn_bd h
        refine gc_VI (c_X4_told hx10) my_X4_told mv_X4_told ob_38 ml_X4_89 rfl rfl ⟨Nat.le_of_ble_eq_true rfl, Nat.le_of_ble_eq_true rfl⟩ (Nat.le_of_ble_eq_true rfl) dX4_mean_88 (fun fx10 => ?_)
        exact gq_retIM dX4_mean_91 rfl h
def f_X4_isText (p0 : Int32) : Option (Int32) := (f_X4_in p0 (0 : Int32) (3 : Int32)).bind (fun x1 => some x1)
set_option maxRecDepth 100000 in
set_option maxHeartbeats 4000000 in
theorem c_X4_isText {m : gn_M} {p0 : Int32} {v : Int32} (h : f_X4_isText p0 = some v) : gn_Cl yX4_isText cX4_isText 1 (some .boolean) 1 22 [.int p0] m (some (.int v)) m := by
  rw [f_X4_isText] at h
  refine gn_met (lv := [some (.int p0)]) pl_X4 rfl rfl (Nat.le_of_ble_eq_true rfl) ?_
  refine gr_iload_n dX4_isText_0 rfl rfl ?_
  refine gr_iconst dX4_isText_1 gk_i_0 ?_
  refine gr_iconst dX4_isText_2 gk_i_3 ?_
  obtain ⟨x1, hx1, h⟩ := gn_bd h
  refine gc_SI (c_X4_in hx1) my_X4_in ms_X4_in ml_X4_77 rfl rfl ⟨Nat.le_of_ble_eq_true rfl, Nat.le_of_ble_eq_true rfl⟩ (Nat.le_of_ble_eq_true rfl) dX4_isText_3 (fun fx1 => ?_)
  exact gq_retI dX4_isText_6 fx1 h
def L_X4_text_34 (n : Nat) (a1 : Int32) (a2 : Int32) (k : gn_M → Option (Int32 × gn_M)) : Nat → Int32 → gn_M → Option (Int32 × gn_M)
  | 0, _, _ => none
  | f + 1, v3, m => (if v3 < (60 : Int32) then gn_wr m 43 240 (((60 : Int32) * a1) + v3) (vp_nar .byte (32 : Int32)) (fun m4 => L_X4_text_34 n a1 a2 k f (v3 + (1 : Int32)) m4) else k m)
set_option maxRecDepth 100000 in
set_option maxHeartbeats 4000000 in
theorem l_X4_text_34 {n : Nat} {a1 : Int32} {a2 : Int32} {k : gn_M → Option (Int32 × gn_M)} {v : Int32 × gn_M} (hk : ∀ (m1 : gn_M), k m1 = some v → gn_Go RX4 cX4_text 4 2 42 (some .int) none 59 [none, none, some (.int a2), none] [] m1 (some (.int v.1)) v.2) : ∀ (f : Nat) (v3 : Int32) (m : gn_M), L_X4_text_34 n a1 a2 k f v3 m = some v → gn_Go RX4 cX4_text 4 2 42 (some .int) none 34 [some (.ref 38), some (.int a1), some (.int a2), some (.int v3)] [] m (some (.int v.1)) v.2 := by
  intro f
  induction f with
  | zero =>
    intro v3 m h
    cases h
  | succ f ih =>
    intro v3 m h
    rw [L_X4_text_34] at h
    refine gr_iload_n dX4_text_34 rfl rfl ?_
    refine gr_bipush dX4_text_35 gk_b_60 ?_
    refine gr_icmp_ge (tgt := 59) dX4_text_37 (by decide) h (fun _ h => ?_) (fun _ h => ?_)
    · refine gr_aload_n dX4_text_40 rfl rfl ?_
      refine gr_getR q_38_8 fl_X4_26 dX4_text_41 ?_
      refine gr_bipush dX4_text_44 gk_b_60 ?_
      refine gr_iload_n dX4_text_46 rfl rfl ?_
      refine gr_imul dX4_text_47 ?_
      refine gr_iload_n dX4_text_48 rfl rfl ?_
      refine gr_iadd dX4_text_49 ?_
      refine gr_bipush dX4_text_50 gk_b_32 ?_
      refine gq_bastore s_43 dX4_text_52 h (fun m4 h => ?_)
      refine gr_iinc (lv' := [some (.ref 38), some (.int a1), some (.int a2), some (.int (v3 + (1 : Int32)))]) dX4_text_53 rfl gk_i_1 (by decide) rfl ?_
      refine gr_goto (tgt := 34) dX4_text_56 (by decide) ?_
      exact ih _ _ h
    · refine gn_wkn [false, false, true, false] rfl ?_
      exact hk _ h
def f_X4_text (n : Nat) (m : gn_M) (p0 : Int32) (p1 : Int32) : Option (Int32 × gn_M) := (f_X4_isText p0).bind (fun x1 => (if x1 = 0 then some ((-1 : Int32), m) else (if (60 : Int32) < p1 then some ((-1 : Int32), m) else (if p1 < 0 then (f_X4_find m (5 : Int32)).bind (fun x2 => some (x2.1, x2.2)) else gn_wr m 42 4 p0 p1 (fun m3 => L_X4_text_34 n p0 p1 (fun (m5 : gn_M) => some (p1, m5)) n (0 : Int32) m3)))))
set_option maxRecDepth 100000 in
set_option maxHeartbeats 4000000 in
theorem c_X4_text {n : Nat} {m : gn_M} {p0 : Int32} {p1 : Int32} {v : Int32 × gn_M} (h : f_X4_text n m p0 p1 = some v) : gn_Cl yX4_text cX4_text 4 (some .int) 2 42 [.ref 38, .int p0, .int p1] m (some (.int v.1)) v.2 := by
  rw [f_X4_text] at h
  refine gn_met (lv := [some (.ref 38), some (.int p0), some (.int p1), none]) pl_X4 rfl rfl (Nat.le_of_ble_eq_true rfl) ?_
  refine gr_iload_n dX4_text_0 rfl rfl ?_
  obtain ⟨x1, hx1, h⟩ := gn_bd h
  refine gc_SI (c_X4_isText hx1) my_X4_isText ms_X4_isText ml_X4_92 rfl rfl ⟨Nat.le_of_ble_eq_true rfl, Nat.le_of_ble_eq_true rfl⟩ (Nat.le_of_ble_eq_true rfl) dX4_text_1 (fun fx1 => ?_)
  refine gr_if_eq (tgt := 13) dX4_text_4 (by decide) h (fun _ h => ?_) (fun _ h => ?_)
  · refine gr_iconst dX4_text_13 gk_i_m1 ?_
    exact gq_retIM dX4_text_14 rfl h
  · refine gr_iload_n dX4_text_7 rfl rfl ?_
    refine gr_bipush dX4_text_8 gk_b_60 ?_
    refine gr_icmp_le (tgt := 15) dX4_text_10 (by decide) h (fun _ h => ?_) (fun _ h => ?_)
    · refine gr_iconst dX4_text_13 gk_i_m1 ?_
      exact gq_retIM dX4_text_14 rfl h
    · refine gr_iload_n dX4_text_15 rfl rfl ?_
      refine gr_if_ge (tgt := 25) dX4_text_16 (by decide) h (fun _ h => ?_) (fun _ h => ?_)
      · refine gr_aload_n dX4_text_19 rfl rfl ?_
        refine gr_iconst dX4_text_20 gk_i_5 ?_
        obtain ⟨x2, hx2, h⟩ := gn_bd h
        refine gc_VI (c_X4_find hx2) my_X4_find mv_X4_find ob_38 ml_X4_85 rfl rfl ⟨Nat.le_of_ble_eq_true rfl, Nat.le_of_ble_eq_true rfl⟩ (Nat.le_of_ble_eq_true rfl) dX4_text_21 (fun fx2 => ?_)
        exact gq_retIM dX4_text_24 rfl h
      · refine gr_aload_n dX4_text_25 rfl rfl ?_
        refine gr_getR q_38_7 fl_X4_23 dX4_text_26 ?_
        refine gr_iload_n dX4_text_29 rfl rfl ?_
        refine gr_iload_n dX4_text_30 rfl rfl ?_
        refine gq_iastore s_42 dX4_text_31 h (fun m3 h => ?_)
        refine gr_iconst dX4_text_32 gk_i_0 ?_
        refine gr_istore_n (lv' := [some (.ref 38), some (.int p0), some (.int p1), some (.int (0 : Int32))]) dX4_text_33 rfl (by decide) rfl ?_
        refine l_X4_text_34 (fun m5 h => ?_) _ _ _ h
        refine gr_iload_n dX4_text_59 rfl rfl ?_
        exact gq_retIM dX4_text_60 rfl h
def f_X4_put (m : gn_M) (p0 : Int32) (p1 : Int32) (p2 : Int32) : Option (Int32 × gn_M) := (f_X4_isText p0).bind (fun x1 => (if x1 = 0 then some ((-1 : Int32), m) else gn_rd m 42 4 p0 (fun x2 => (if x2 < 0 then (f_X4_find m (1 : Int32)).bind (fun x3 => some (x3.1, x3.2)) else gn_rd m 42 4 p0 (fun x4 => (f_X4_in p1 (0 : Int32) (x4 - (1 : Int32))).bind (fun x5 => (if x5 = 0 then (f_X4_find m (2 : Int32)).bind (fun x6 => some (x6.1, x6.2)) else gn_rd m 43 240 (((60 : Int32) * p0) + p1) (fun x7 => gn_wr m 43 240 (((60 : Int32) * p0) + p1) (vp_nar .byte p2.toInt8.toInt32) (fun m8 => some ((x7 + (1000 : Int32)), m8))))))))))
set_option maxRecDepth 100000 in
set_option maxHeartbeats 4000000 in
theorem c_X4_put {m : gn_M} {p0 : Int32} {p1 : Int32} {p2 : Int32} {v : Int32 × gn_M} (h : f_X4_put m p0 p1 p2 = some v) : gn_Cl yX4_put cX4_put 5 (some .int) 2 42 [.ref 38, .int p0, .int p1, .int p2] m (some (.int v.1)) v.2 := by
  rw [f_X4_put] at h
  refine gn_met (lv := [some (.ref 38), some (.int p0), some (.int p1), some (.int p2), none]) pl_X4 rfl rfl (Nat.le_of_ble_eq_true rfl) ?_
  refine gr_iload_n dX4_put_0 rfl rfl ?_
  obtain ⟨x1, hx1, h⟩ := gn_bd h
  refine gc_SI (c_X4_isText hx1) my_X4_isText ms_X4_isText ml_X4_92 rfl rfl ⟨Nat.le_of_ble_eq_true rfl, Nat.le_of_ble_eq_true rfl⟩ (Nat.le_of_ble_eq_true rfl) dX4_put_1 (fun fx1 => ?_)
  refine gr_if_ne (tgt := 9) dX4_put_4 (by decide) h (fun _ h => ?_) (fun _ h => ?_)
  · refine gr_iconst dX4_put_7 gk_i_m1 ?_
    exact gq_retIM dX4_put_8 rfl h
  · refine gr_aload_n dX4_put_9 rfl rfl ?_
    refine gr_getR q_38_7 fl_X4_23 dX4_put_10 ?_
    refine gr_iload_n dX4_put_13 rfl rfl ?_
    refine gq_iaload s_42 dX4_put_14 h (fun x2 h => ?_)
    refine gr_if_ge (tgt := 24) dX4_put_15 (by decide) h (fun _ h => ?_) (fun _ h => ?_)
    · refine gr_aload_n dX4_put_18 rfl rfl ?_
      refine gr_iconst dX4_put_19 gk_i_1 ?_
      obtain ⟨x3, hx3, h⟩ := gn_bd h
      refine gc_VI (c_X4_find hx3) my_X4_find mv_X4_find ob_38 ml_X4_85 rfl rfl ⟨Nat.le_of_ble_eq_true rfl, Nat.le_of_ble_eq_true rfl⟩ (Nat.le_of_ble_eq_true rfl) dX4_put_20 (fun fx3 => ?_)
      exact gq_retIM dX4_put_23 rfl h
    · refine gr_iload_n dX4_put_24 rfl rfl ?_
      refine gr_iconst dX4_put_25 gk_i_0 ?_
      refine gr_aload_n dX4_put_26 rfl rfl ?_
      refine gr_getR q_38_7 fl_X4_23 dX4_put_27 ?_
      refine gr_iload_n dX4_put_30 rfl rfl ?_
      refine gq_iaload s_42 dX4_put_31 h (fun x4 h => ?_)
      refine gr_iconst dX4_put_32 gk_i_1 ?_
      refine gr_isub dX4_put_33 ?_
      obtain ⟨x5, hx5, h⟩ := gn_bd h
      refine gc_SI (c_X4_in hx5) my_X4_in ms_X4_in ml_X4_77 rfl rfl ⟨Nat.le_of_ble_eq_true rfl, Nat.le_of_ble_eq_true rfl⟩ (Nat.le_of_ble_eq_true rfl) dX4_put_34 (fun fx5 => ?_)
      refine gr_if_ne (tgt := 46) dX4_put_37 (by decide) h (fun _ h => ?_) (fun _ h => ?_)
      · refine gr_aload_n dX4_put_40 rfl rfl ?_
        refine gr_iconst dX4_put_41 gk_i_2 ?_
        obtain ⟨x6, hx6, h⟩ := gn_bd h
        refine gc_VI (c_X4_find hx6) my_X4_find mv_X4_find ob_38 ml_X4_85 rfl rfl ⟨Nat.le_of_ble_eq_true rfl, Nat.le_of_ble_eq_true rfl⟩ (Nat.le_of_ble_eq_true rfl) dX4_put_42 (fun fx6 => ?_)
        exact gq_retIM dX4_put_45 rfl h
      · refine gr_aload_n dX4_put_46 rfl rfl ?_
        refine gr_getR q_38_8 fl_X4_26 dX4_put_47 ?_
        refine gr_bipush dX4_put_50 gk_b_60 ?_
        refine gr_iload_n dX4_put_52 rfl rfl ?_
        refine gr_imul dX4_put_53 ?_
        refine gr_iload_n dX4_put_54 rfl rfl ?_
        refine gr_iadd dX4_put_55 ?_
        refine gq_baload s_43 dX4_put_56 h (fun x7 h => ?_)
        refine gr_istore (lv' := [some (.ref 38), some (.int p0), some (.int p1), some (.int p2), some (.int x7)]) dX4_put_57 (by decide) rfl ?_
        refine gr_aload_n dX4_put_59 rfl rfl ?_
        refine gr_getR q_38_8 fl_X4_26 dX4_put_60 ?_
        refine gr_bipush dX4_put_63 gk_b_60 ?_
        refine gr_iload_n dX4_put_65 rfl rfl ?_
        refine gr_imul dX4_put_66 ?_
        refine gr_iload_n dX4_put_67 rfl rfl ?_
        refine gr_iadd dX4_put_68 ?_
        refine gr_iload_n dX4_put_69 rfl rfl ?_
        refine gr_i2b dX4_put_70 ?_
        refine gq_bastore s_43 dX4_put_71 h (fun m8 h => ?_)
        refine gr_iload dX4_put_72 rfl ?_
        refine gr_sipush dX4_put_74 gk_s_1000 ?_
        refine gr_iadd dX4_put_77 ?_
        exact gq_retIM dX4_put_78 rfl h
def f_X4_kindOf (p0 : Int32) : Option (Int32) := (if p0 = (103 : Int32) then some (0 : Int32) else (if p0 = (107 : Int32) then some (1 : Int32) else (if p0 = (115 : Int32) then some (2 : Int32) else (if p0 = (109 : Int32) then some (3 : Int32) else (if p0 = (105 : Int32) then some (4 : Int32) else (if p0 = (102 : Int32) then some (5 : Int32) else some (-9 : Int32)))))))
set_option maxRecDepth 100000 in
set_option maxHeartbeats 4000000 in
theorem c_X4_kindOf {m : gn_M} {p0 : Int32} {v : Int32} (h : f_X4_kindOf p0 = some v) : gn_Cl yX4_kindOf cX4_kindOf 1 (some .int) 0 0 [.int p0] m (some (.int v)) m := by
  rw [f_X4_kindOf] at h
  refine gn_met (lv := [some (.int p0)]) pl_X4 rfl rfl (Nat.le_of_ble_eq_true rfl) ?_
  refine gr_iload_n dX4_kindOf_0 rfl rfl ?_
  refine gr_bipush dX4_kindOf_1 gk_b_103 ?_
  refine gr_icmp_ne (tgt := 10) dX4_kindOf_3 (by decide) h (fun _ h => ?_) (fun _ h => ?_)
  · refine gr_iconst dX4_kindOf_6 gk_i_0 ?_
    refine gr_goto (tgt := 62) dX4_kindOf_7 (by decide) ?_
    exact gq_retI dX4_kindOf_62 rfl h
  · refine gr_iload_n dX4_kindOf_10 rfl rfl ?_
    refine gr_bipush dX4_kindOf_11 gk_b_107 ?_
    refine gr_icmp_ne (tgt := 20) dX4_kindOf_13 (by decide) h (fun _ h => ?_) (fun _ h => ?_)
    · refine gr_iconst dX4_kindOf_16 gk_i_1 ?_
      refine gr_goto (tgt := 62) dX4_kindOf_17 (by decide) ?_
      exact gq_retI dX4_kindOf_62 rfl h
    · refine gr_iload_n dX4_kindOf_20 rfl rfl ?_
      refine gr_bipush dX4_kindOf_21 gk_b_115 ?_
      refine gr_icmp_ne (tgt := 30) dX4_kindOf_23 (by decide) h (fun _ h => ?_) (fun _ h => ?_)
      · refine gr_iconst dX4_kindOf_26 gk_i_2 ?_
        refine gr_goto (tgt := 62) dX4_kindOf_27 (by decide) ?_
        exact gq_retI dX4_kindOf_62 rfl h
      · refine gr_iload_n dX4_kindOf_30 rfl rfl ?_
        refine gr_bipush dX4_kindOf_31 gk_b_109 ?_
        refine gr_icmp_ne (tgt := 40) dX4_kindOf_33 (by decide) h (fun _ h => ?_) (fun _ h => ?_)
        · refine gr_iconst dX4_kindOf_36 gk_i_3 ?_
          refine gr_goto (tgt := 62) dX4_kindOf_37 (by decide) ?_
          exact gq_retI dX4_kindOf_62 rfl h
        · refine gr_iload_n dX4_kindOf_40 rfl rfl ?_
          refine gr_bipush dX4_kindOf_41 gk_b_105 ?_
          refine gr_icmp_ne (tgt := 50) dX4_kindOf_43 (by decide) h (fun _ h => ?_) (fun _ h => ?_)
          · refine gr_iconst dX4_kindOf_46 gk_i_4 ?_
            refine gr_goto (tgt := 62) dX4_kindOf_47 (by decide) ?_
            exact gq_retI dX4_kindOf_62 rfl h
          · refine gr_iload_n dX4_kindOf_50 rfl rfl ?_
            refine gr_bipush dX4_kindOf_51 gk_b_102 ?_
            refine gr_icmp_ne (tgt := 60) dX4_kindOf_53 (by decide) h (fun _ h => ?_) (fun _ h => ?_)
            · refine gr_iconst dX4_kindOf_56 gk_i_5 ?_
              refine gr_goto (tgt := 62) dX4_kindOf_57 (by decide) ?_
              exact gq_retI dX4_kindOf_62 rfl h
            · refine gr_bipush dX4_kindOf_60 gk_b_m9 ?_
              exact gq_retI dX4_kindOf_62 rfl h
def L_X4_read_112 (n : Nat) (m : gn_M) (a1 : Int32) (a2 : Int32) (k : Unit → Option (Int32 × gn_M)) : Nat → Int32 → Option (Int32 × gn_M)
  | 0, _ => none
  | f + 1, v4 => (if (2 : Int32) < v4 then k () else gn_rd m 42 4 a1 (fun x8 => (if (a2 + v4) = x8 then some ((a2 + v4), m) else gn_rd m 43 240 ((((60 : Int32) * a1) + a2) + v4) (fun x9 => (f_X4_in x9 (48 : Int32) (57 : Int32)).bind (fun x10 => (if x10 = 0 then some ((a2 + v4), m) else L_X4_read_112 n m a1 a2 k f (v4 + (1 : Int32))))))))
set_option maxRecDepth 100000 in
set_option maxHeartbeats 4000000 in
theorem l_X4_read_112 {n : Nat} {m : gn_M} {a1 : Int32} {a2 : Int32} {k : Unit → Option (Int32 × gn_M)} {v : Int32 × gn_M} (hk : ∀ (u : Unit), k u = some v → gn_Go RX4 cX4_read 5 1 22 (some .int) none 166 [some (.ref 38), some (.int a1), some (.int a2), none, none] [] m (some (.int v.1)) v.2) : ∀ (f : Nat) (v4 : Int32), L_X4_read_112 n m a1 a2 k f v4 = some v → gn_Go RX4 cX4_read 5 1 22 (some .int) none 112 [some (.ref 38), some (.int a1), some (.int a2), none, some (.int v4)] [] m (some (.int v.1)) v.2 := by
  intro f
  induction f with
  | zero =>
    intro v4 h
    cases h
  | succ f ih =>
    intro v4 h
    rw [L_X4_read_112] at h
    refine gr_iload dX4_read_112 rfl ?_
    refine gr_iconst dX4_read_114 gk_i_2 ?_
    refine gr_icmp_gt (tgt := 166) dX4_read_115 (by decide) h (fun _ h => ?_) (fun _ h => ?_)
    · refine gn_wkn [true, true, true, false, false] rfl ?_
      exact hk _ h
    · refine gr_iload_n dX4_read_118 rfl rfl ?_
      refine gr_iload dX4_read_119 rfl ?_
      refine gr_iadd dX4_read_121 ?_
      refine gr_aload_n dX4_read_122 rfl rfl ?_
      refine gr_getR q_38_7 fl_X4_23 dX4_read_123 ?_
      refine gr_iload_n dX4_read_126 rfl rfl ?_
      refine gq_iaload s_42 dX4_read_127 h (fun x8 h => ?_)
      refine gr_icmp_eq (tgt := 155) dX4_read_128 (by decide) h (fun _ h => ?_) (fun _ h => ?_)
      · refine gr_iload_n dX4_read_155 rfl rfl ?_
        refine gr_iload dX4_read_156 rfl ?_
        refine gr_iadd dX4_read_158 ?_
        exact gq_retIM dX4_read_159 rfl h
      · refine gr_aload_n dX4_read_131 rfl rfl ?_
        refine gr_getR q_38_8 fl_X4_26 dX4_read_132 ?_
        refine gr_bipush dX4_read_135 gk_b_60 ?_
        refine gr_iload_n dX4_read_137 rfl rfl ?_
        refine gr_imul dX4_read_138 ?_
        refine gr_iload_n dX4_read_139 rfl rfl ?_
        refine gr_iadd dX4_read_140 ?_
        refine gr_iload dX4_read_141 rfl ?_
        refine gr_iadd dX4_read_143 ?_
        refine gq_baload s_43 dX4_read_144 h (fun x9 h => ?_)
        refine gr_bipush dX4_read_145 gk_b_48 ?_
        refine gr_bipush dX4_read_147 gk_b_57 ?_
        obtain ⟨x10, hx10, h⟩ := gn_bd h
        refine gc_SI (c_X4_in hx10) my_X4_in ms_X4_in ml_X4_77 rfl rfl ⟨Nat.le_of_ble_eq_true rfl, Nat.le_of_ble_eq_true rfl⟩ (Nat.le_of_ble_eq_true rfl) dX4_read_149 (fun fx10 => ?_)
        refine gr_if_ne (tgt := 160) dX4_read_152 (by decide) h (fun _ h => ?_) (fun _ h => ?_)
        · refine gr_iload_n dX4_read_155 rfl rfl ?_
          refine gr_iload dX4_read_156 rfl ?_
          refine gr_iadd dX4_read_158 ?_
          exact gq_retIM dX4_read_159 rfl h
        · refine gr_iinc (lv' := [some (.ref 38), some (.int a1), some (.int a2), none, some (.int (v4 + (1 : Int32)))]) dX4_read_160 rfl gk_i_1 (by decide) rfl ?_
          refine gr_goto (tgt := 112) dX4_read_163 (by decide) ?_
          exact ih _ h
def L_X4_read_7 (n : Nat) (a1 : Int32) : Nat → Int32 → gn_M → Option (Int32 × gn_M)
  | 0, _, _ => none
  | f + 1, v2, m => gn_rd m 42 4 a1 (fun x2 => (if v2 < x2 then gn_rd m 43 240 (((60 : Int32) * a1) + v2) (fun x3 => (if x3 = (32 : Int32) then L_X4_read_7 n a1 f (v2 + (1 : Int32)) m else gn_rd m 42 4 a1 (fun x4 => (if v2 = x4 then (if (m.1 38 14) < (2 : Int32) then some (v2, m) else some ((-9 : Int32), m)) else gn_rd m 43 240 (((60 : Int32) * a1) + v2) (fun x5 => (f_X4_kindOf x5).bind (fun x6 => (if x6 = (-9 : Int32) then some (v2, m) else (if (m.1 38 14) = (7 : Int32) then some (v2, m) else gn_wr m 45 14 ((7 : Int32) + (m.1 38 14)) x6 (fun m7 => L_X4_read_112 n m7 a1 v2 (fun (_ : Unit) => gn_rd m7 43 240 ((((60 : Int32) * a1) + v2) + (1 : Int32)) (fun x11 => gn_wr m7 46 14 ((7 : Int32) + (m7.1 38 14)) (x11 - (48 : Int32)) (fun m12 => gn_rd m12 43 240 ((((60 : Int32) * a1) + v2) + (2 : Int32)) (fun x13 => gn_wr m12 47 14 ((7 : Int32) + (m12.1 38 14)) (x13 - (48 : Int32)) (fun m14 => gn_pf m14 38 14 ((m14.1 38 14) + (1 : Int32)) (fun m15 => L_X4_read_7 n a1 f (v2 + (3 : Int32)) m15)))))) n (1 : Int32)))))))))) else gn_rd m 42 4 a1 (fun x16 => (if v2 = x16 then (if (m.1 38 14) < (2 : Int32) then some (v2, m) else some ((-9 : Int32), m)) else gn_rd m 43 240 (((60 : Int32) * a1) + v2) (fun x17 => (f_X4_kindOf x17).bind (fun x18 => (if x18 = (-9 : Int32) then some (v2, m) else (if (m.1 38 14) = (7 : Int32) then some (v2, m) else gn_wr m 45 14 ((7 : Int32) + (m.1 38 14)) x18 (fun m19 => L_X4_read_112 n m19 a1 v2 (fun (_ : Unit) => gn_rd m19 43 240 ((((60 : Int32) * a1) + v2) + (1 : Int32)) (fun x20 => gn_wr m19 46 14 ((7 : Int32) + (m19.1 38 14)) (x20 - (48 : Int32)) (fun m21 => gn_rd m21 43 240 ((((60 : Int32) * a1) + v2) + (2 : Int32)) (fun x22 => gn_wr m21 47 14 ((7 : Int32) + (m21.1 38 14)) (x22 - (48 : Int32)) (fun m23 => gn_pf m23 38 14 ((m23.1 38 14) + (1 : Int32)) (fun m24 => L_X4_read_7 n a1 f (v2 + (3 : Int32)) m24)))))) n (1 : Int32))))))))))
set_option maxRecDepth 100000 in
set_option maxHeartbeats 4000000 in
theorem l_X4_read_7 {n : Nat} {a1 : Int32} {v : Int32 × gn_M} : ∀ (f : Nat) (v2 : Int32) (m : gn_M), L_X4_read_7 n a1 f v2 m = some v → gn_Go RX4 cX4_read 5 1 22 (some .int) none 7 [some (.ref 38), some (.int a1), some (.int v2), none, none] [] m (some (.int v.1)) v.2 := by
  intro f
  induction f with
  | zero =>
    intro v2 m h
    cases h
  | succ f ih =>
    intro v2 m h
    rw [L_X4_read_7] at h
    refine gr_iload_n dX4_read_7 rfl rfl ?_
    refine gr_aload_n dX4_read_8 rfl rfl ?_
    refine gr_getR q_38_7 fl_X4_23 dX4_read_9 ?_
    refine gr_iload_n dX4_read_12 rfl rfl ?_
    refine gq_iaload s_42 dX4_read_13 h (fun x2 h => ?_)
    refine gr_icmp_ge (tgt := 39) dX4_read_14 (by decide) h (fun _ h => ?_) (fun _ h => ?_)
    · refine gr_aload_n dX4_read_17 rfl rfl ?_
      refine gr_getR q_38_8 fl_X4_26 dX4_read_18 ?_
      refine gr_bipush dX4_read_21 gk_b_60 ?_
      refine gr_iload_n dX4_read_23 rfl rfl ?_
      refine gr_imul dX4_read_24 ?_
      refine gr_iload_n dX4_read_25 rfl rfl ?_
      refine gr_iadd dX4_read_26 ?_
      refine gq_baload s_43 dX4_read_27 h (fun x3 h => ?_)
      refine gr_bipush dX4_read_28 gk_b_32 ?_
      refine gr_icmp_ne (tgt := 39) dX4_read_30 (by decide) h (fun _ h => ?_) (fun _ h => ?_)
      · refine gr_iinc (lv' := [some (.ref 38), some (.int a1), some (.int (v2 + (1 : Int32))), none, none]) dX4_read_33 rfl gk_i_1 (by decide) rfl ?_
        refine gr_goto (tgt := 7) dX4_read_36 (by decide) ?_
        exact ih _ _ h
      · refine gr_iload_n dX4_read_39 rfl rfl ?_
        refine gr_aload_n dX4_read_40 rfl rfl ?_
        refine gr_getR q_38_7 fl_X4_23 dX4_read_41 ?_
        refine gr_iload_n dX4_read_44 rfl rfl ?_
        refine gq_iaload s_42 dX4_read_45 h (fun x4 h => ?_)
        refine gr_icmp_ne (tgt := 64) dX4_read_46 (by decide) h (fun _ h => ?_) (fun _ h => ?_)
        · refine gr_aload_n dX4_read_49 rfl rfl ?_
          refine gr_getI q_38_14 fl_X4_95 dX4_read_50 ?_
          refine gr_iconst dX4_read_53 gk_i_2 ?_
          refine gr_icmp_ge (tgt := 61) dX4_read_54 (by decide) h (fun _ h => ?_) (fun _ h => ?_)
          · refine gr_iload_n dX4_read_57 rfl rfl ?_
            refine gr_goto (tgt := 63) dX4_read_58 (by decide) ?_
            exact gq_retIM dX4_read_63 rfl h
          · refine gr_bipush dX4_read_61 gk_b_m9 ?_
            exact gq_retIM dX4_read_63 rfl h
        · refine gr_aload_n dX4_read_64 rfl rfl ?_
          refine gr_getR q_38_8 fl_X4_26 dX4_read_65 ?_
          refine gr_bipush dX4_read_68 gk_b_60 ?_
          refine gr_iload_n dX4_read_70 rfl rfl ?_
          refine gr_imul dX4_read_71 ?_
          refine gr_iload_n dX4_read_72 rfl rfl ?_
          refine gr_iadd dX4_read_73 ?_
          refine gq_baload s_43 dX4_read_74 h (fun x5 h => ?_)
          obtain ⟨x6, hx6, h⟩ := gn_bd h
          refine gc_SI (c_X4_kindOf hx6) my_X4_kindOf ms_X4_kindOf ml_X4_98 rfl rfl ⟨Nat.le_of_ble_eq_true rfl, Nat.le_of_ble_eq_true rfl⟩ (Nat.le_of_ble_eq_true rfl) dX4_read_75 (fun fx6 => ?_)
          refine gr_istore_n (lv' := [some (.ref 38), some (.int a1), some (.int v2), some (.int x6), none]) dX4_read_78 rfl (by decide) rfl ?_
          refine gr_iload_n dX4_read_79 rfl rfl ?_
          refine gr_bipush dX4_read_80 gk_b_m9 ?_
          refine gr_icmp_eq (tgt := 94) dX4_read_82 (by decide) h (fun _ h => ?_) (fun _ h => ?_)
          · refine gr_iload_n dX4_read_94 rfl rfl ?_
            exact gq_retIM dX4_read_95 rfl h
          · refine gr_aload_n dX4_read_85 rfl rfl ?_
            refine gr_getI q_38_14 fl_X4_95 dX4_read_86 ?_
            refine gr_bipush dX4_read_89 gk_b_7 ?_
            refine gr_icmp_ne (tgt := 96) dX4_read_91 (by decide) h (fun _ h => ?_) (fun _ h => ?_)
            · refine gr_iload_n dX4_read_94 rfl rfl ?_
              exact gq_retIM dX4_read_95 rfl h
            · refine gr_aload_n dX4_read_96 rfl rfl ?_
              refine gr_getR q_38_11 fl_X4_33 dX4_read_97 ?_
              refine gr_bipush dX4_read_100 gk_b_7 ?_
              refine gr_aload_n dX4_read_102 rfl rfl ?_
              refine gr_getI q_38_14 fl_X4_95 dX4_read_103 ?_
              refine gr_iadd dX4_read_106 ?_
              refine gr_iload_n dX4_read_107 rfl rfl ?_
              refine gq_iastore s_45 dX4_read_108 h (fun m7 h => ?_)
              refine gr_iconst dX4_read_109 gk_i_1 ?_
              refine gr_istore (lv' := [some (.ref 38), some (.int a1), some (.int v2), some (.int x6), some (.int (1 : Int32))]) dX4_read_110 (by decide) rfl ?_
              refine gn_wkn [true, true, true, false, true] rfl ?_
              refine l_X4_read_112 (fun _ h => ?_) _ _ h
              refine gr_aload_n dX4_read_166 rfl rfl ?_
              refine gr_getR q_38_12 fl_X4_36 dX4_read_167 ?_
              refine gr_bipush dX4_read_170 gk_b_7 ?_
              refine gr_aload_n dX4_read_172 rfl rfl ?_
              refine gr_getI q_38_14 fl_X4_95 dX4_read_173 ?_
              refine gr_iadd dX4_read_176 ?_
              refine gr_aload_n dX4_read_177 rfl rfl ?_
              refine gr_getR q_38_8 fl_X4_26 dX4_read_178 ?_
              refine gr_bipush dX4_read_181 gk_b_60 ?_
              refine gr_iload_n dX4_read_183 rfl rfl ?_
              refine gr_imul dX4_read_184 ?_
              refine gr_iload_n dX4_read_185 rfl rfl ?_
              refine gr_iadd dX4_read_186 ?_
              refine gr_iconst dX4_read_187 gk_i_1 ?_
              refine gr_iadd dX4_read_188 ?_
              refine gq_baload s_43 dX4_read_189 h (fun x11 h => ?_)
              refine gr_bipush dX4_read_190 gk_b_48 ?_
              refine gr_isub dX4_read_192 ?_
              refine gq_iastore s_46 dX4_read_193 h (fun m12 h => ?_)
              refine gr_aload_n dX4_read_194 rfl rfl ?_
              refine gr_getR q_38_13 fl_X4_39 dX4_read_195 ?_
              refine gr_bipush dX4_read_198 gk_b_7 ?_
              refine gr_aload_n dX4_read_200 rfl rfl ?_
              refine gr_getI q_38_14 fl_X4_95 dX4_read_201 ?_
              refine gr_iadd dX4_read_204 ?_
              refine gr_aload_n dX4_read_205 rfl rfl ?_
              refine gr_getR q_38_8 fl_X4_26 dX4_read_206 ?_
              refine gr_bipush dX4_read_209 gk_b_60 ?_
              refine gr_iload_n dX4_read_211 rfl rfl ?_
              refine gr_imul dX4_read_212 ?_
              refine gr_iload_n dX4_read_213 rfl rfl ?_
              refine gr_iadd dX4_read_214 ?_
              refine gr_iconst dX4_read_215 gk_i_2 ?_
              refine gr_iadd dX4_read_216 ?_
              refine gq_baload s_43 dX4_read_217 h (fun x13 h => ?_)
              refine gr_bipush dX4_read_218 gk_b_48 ?_
              refine gr_isub dX4_read_220 ?_
              refine gq_iastore s_47 dX4_read_221 h (fun m14 h => ?_)
              refine gr_aload_n dX4_read_222 rfl rfl ?_
              refine gr_dup dX4_read_223 rfl ?_
              refine gr_getI q_38_14 fl_X4_95 dX4_read_224 ?_
              refine gr_iconst dX4_read_227 gk_i_1 ?_
              refine gr_iadd dX4_read_228 ?_
              refine gq_putI q_38_14 rfl rfl fl_X4_95 dX4_read_229 h (fun m15 h => ?_)
              refine gr_iinc (lv' := [some (.ref 38), some (.int a1), some (.int (v2 + (3 : Int32))), none, none]) dX4_read_232 rfl gk_i_3 (by decide) rfl ?_
              refine gr_goto (tgt := 7) dX4_read_235 (by decide) ?_
              exact ih _ _ h
    · refine gr_iload_n dX4_read_39 rfl rfl ?_
      refine gr_aload_n dX4_read_40 rfl rfl ?_
      refine gr_getR q_38_7 fl_X4_23 dX4_read_41 ?_
      refine gr_iload_n dX4_read_44 rfl rfl ?_
      refine gq_iaload s_42 dX4_read_45 h (fun x16 h => ?_)
      refine gr_icmp_ne (tgt := 64) dX4_read_46 (by decide) h (fun _ h => ?_) (fun _ h => ?_)
      · refine gr_aload_n dX4_read_49 rfl rfl ?_
        refine gr_getI q_38_14 fl_X4_95 dX4_read_50 ?_
        refine gr_iconst dX4_read_53 gk_i_2 ?_
        refine gr_icmp_ge (tgt := 61) dX4_read_54 (by decide) h (fun _ h => ?_) (fun _ h => ?_)
        · refine gr_iload_n dX4_read_57 rfl rfl ?_
          refine gr_goto (tgt := 63) dX4_read_58 (by decide) ?_
          exact gq_retIM dX4_read_63 rfl h
        · refine gr_bipush dX4_read_61 gk_b_m9 ?_
          exact gq_retIM dX4_read_63 rfl h
      · refine gr_aload_n dX4_read_64 rfl rfl ?_
        refine gr_getR q_38_8 fl_X4_26 dX4_read_65 ?_
        refine gr_bipush dX4_read_68 gk_b_60 ?_
        refine gr_iload_n dX4_read_70 rfl rfl ?_
        refine gr_imul dX4_read_71 ?_
        refine gr_iload_n dX4_read_72 rfl rfl ?_
        refine gr_iadd dX4_read_73 ?_
        refine gq_baload s_43 dX4_read_74 h (fun x17 h => ?_)
        obtain ⟨x18, hx18, h⟩ := gn_bd h
        refine gc_SI (c_X4_kindOf hx18) my_X4_kindOf ms_X4_kindOf ml_X4_98 rfl rfl ⟨Nat.le_of_ble_eq_true rfl, Nat.le_of_ble_eq_true rfl⟩ (Nat.le_of_ble_eq_true rfl) dX4_read_75 (fun fx18 => ?_)
        refine gr_istore_n (lv' := [some (.ref 38), some (.int a1), some (.int v2), some (.int x18), none]) dX4_read_78 rfl (by decide) rfl ?_
        refine gr_iload_n dX4_read_79 rfl rfl ?_
        refine gr_bipush dX4_read_80 gk_b_m9 ?_
        refine gr_icmp_eq (tgt := 94) dX4_read_82 (by decide) h (fun _ h => ?_) (fun _ h => ?_)
        · refine gr_iload_n dX4_read_94 rfl rfl ?_
          exact gq_retIM dX4_read_95 rfl h
        · refine gr_aload_n dX4_read_85 rfl rfl ?_
          refine gr_getI q_38_14 fl_X4_95 dX4_read_86 ?_
          refine gr_bipush dX4_read_89 gk_b_7 ?_
          refine gr_icmp_ne (tgt := 96) dX4_read_91 (by decide) h (fun _ h => ?_) (fun _ h => ?_)
          · refine gr_iload_n dX4_read_94 rfl rfl ?_
            exact gq_retIM dX4_read_95 rfl h
          · refine gr_aload_n dX4_read_96 rfl rfl ?_
            refine gr_getR q_38_11 fl_X4_33 dX4_read_97 ?_
            refine gr_bipush dX4_read_100 gk_b_7 ?_
            refine gr_aload_n dX4_read_102 rfl rfl ?_
            refine gr_getI q_38_14 fl_X4_95 dX4_read_103 ?_
            refine gr_iadd dX4_read_106 ?_
            refine gr_iload_n dX4_read_107 rfl rfl ?_
            refine gq_iastore s_45 dX4_read_108 h (fun m19 h => ?_)
            refine gr_iconst dX4_read_109 gk_i_1 ?_
            refine gr_istore (lv' := [some (.ref 38), some (.int a1), some (.int v2), some (.int x18), some (.int (1 : Int32))]) dX4_read_110 (by decide) rfl ?_
            refine gn_wkn [true, true, true, false, true] rfl ?_
            refine l_X4_read_112 (fun _ h => ?_) _ _ h
            refine gr_aload_n dX4_read_166 rfl rfl ?_
            refine gr_getR q_38_12 fl_X4_36 dX4_read_167 ?_
            refine gr_bipush dX4_read_170 gk_b_7 ?_
            refine gr_aload_n dX4_read_172 rfl rfl ?_
            refine gr_getI q_38_14 fl_X4_95 dX4_read_173 ?_
            refine gr_iadd dX4_read_176 ?_
            refine gr_aload_n dX4_read_177 rfl rfl ?_
            refine gr_getR q_38_8 fl_X4_26 dX4_read_178 ?_
            refine gr_bipush dX4_read_181 gk_b_60 ?_
            refine gr_iload_n dX4_read_183 rfl rfl ?_
            refine gr_imul dX4_read_184 ?_
            refine gr_iload_n dX4_read_185 rfl rfl ?_
            refine gr_iadd dX4_read_186 ?_
            refine gr_iconst dX4_read_187 gk_i_1 ?_
            refine gr_iadd dX4_read_188 ?_
            refine gq_baload s_43 dX4_read_189 h (fun x20 h => ?_)
            refine gr_bipush dX4_read_190 gk_b_48 ?_
            refine gr_isub dX4_read_192 ?_
            refine gq_iastore s_46 dX4_read_193 h (fun m21 h => ?_)
            refine gr_aload_n dX4_read_194 rfl rfl ?_
            refine gr_getR q_38_13 fl_X4_39 dX4_read_195 ?_
            refine gr_bipush dX4_read_198 gk_b_7 ?_
            refine gr_aload_n dX4_read_200 rfl rfl ?_
            refine gr_getI q_38_14 fl_X4_95 dX4_read_201 ?_
            refine gr_iadd dX4_read_204 ?_
            refine gr_aload_n dX4_read_205 rfl rfl ?_
            refine gr_getR q_38_8 fl_X4_26 dX4_read_206 ?_
            refine gr_bipush dX4_read_209 gk_b_60 ?_
            refine gr_iload_n dX4_read_211 rfl rfl ?_
            refine gr_imul dX4_read_212 ?_
            refine gr_iload_n dX4_read_213 rfl rfl ?_
            refine gr_iadd dX4_read_214 ?_
            refine gr_iconst dX4_read_215 gk_i_2 ?_
            refine gr_iadd dX4_read_216 ?_
            refine gq_baload s_43 dX4_read_217 h (fun x22 h => ?_)
            refine gr_bipush dX4_read_218 gk_b_48 ?_
            refine gr_isub dX4_read_220 ?_
            refine gq_iastore s_47 dX4_read_221 h (fun m23 h => ?_)
            refine gr_aload_n dX4_read_222 rfl rfl ?_
            refine gr_dup dX4_read_223 rfl ?_
            refine gr_getI q_38_14 fl_X4_95 dX4_read_224 ?_
            refine gr_iconst dX4_read_227 gk_i_1 ?_
            refine gr_iadd dX4_read_228 ?_
            refine gq_putI q_38_14 rfl rfl fl_X4_95 dX4_read_229 h (fun m24 h => ?_)
            refine gr_iinc (lv' := [some (.ref 38), some (.int a1), some (.int (v2 + (3 : Int32))), none, none]) dX4_read_232 rfl gk_i_3 (by decide) rfl ?_
            refine gr_goto (tgt := 7) dX4_read_235 (by decide) ?_
            exact ih _ _ h
def f_X4_read (n : Nat) (m : gn_M) (p0 : Int32) : Option (Int32 × gn_M) := gn_pf m 38 14 (0 : Int32) (fun m1 => L_X4_read_7 n p0 n (0 : Int32) m1)
set_option maxRecDepth 100000 in
set_option maxHeartbeats 4000000 in
theorem c_X4_read {n : Nat} {m : gn_M} {p0 : Int32} {v : Int32 × gn_M} (h : f_X4_read n m p0 = some v) : gn_Cl yX4_read cX4_read 5 (some .int) 1 22 [.ref 38, .int p0] m (some (.int v.1)) v.2 := by
  rw [f_X4_read] at h
  refine gn_met (lv := [some (.ref 38), some (.int p0), none, none, none]) pl_X4 rfl rfl (Nat.le_of_ble_eq_true rfl) ?_
  refine gr_aload_n dX4_read_0 rfl rfl ?_
  refine gr_iconst dX4_read_1 gk_i_0 ?_
  refine gq_putI q_38_14 rfl rfl fl_X4_95 dX4_read_2 h (fun m1 h => ?_)
  refine gr_iconst dX4_read_5 gk_i_0 ?_
  refine gr_istore_n (lv' := [some (.ref 38), some (.int p0), some (.int (0 : Int32)), none, none]) dX4_read_6 rfl (by decide) rfl ?_
  exact l_X4_read_7 _ _ _ h
def f_X4_fault (n : Nat) (m : gn_M) (p0 : Int32) : Option (Int32 × gn_M) := (f_X4_isText p0).bind (fun x1 => (if x1 = 0 then some ((-1 : Int32), m) else gn_rd m 42 4 p0 (fun x2 => (if x2 < 0 then (f_X4_find m (1 : Int32)).bind (fun x3 => some (x3.1, x3.2)) else (f_X4_read n m p0).bind (fun x4 => some (x4.1, x4.2))))))
set_option maxRecDepth 100000 in
set_option maxHeartbeats 4000000 in
theorem c_X4_fault {n : Nat} {m : gn_M} {p0 : Int32} {v : Int32 × gn_M} (h : f_X4_fault n m p0 = some v) : gn_Cl yX4_fault cX4_fault 2 (some .int) 2 46 [.ref 38, .int p0] m (some (.int v.1)) v.2 := by
  rw [f_X4_fault] at h
  refine gn_met (lv := [some (.ref 38), some (.int p0)]) pl_X4 rfl rfl (Nat.le_of_ble_eq_true rfl) ?_
  refine gr_iload_n dX4_fault_0 rfl rfl ?_
  obtain ⟨x1, hx1, h⟩ := gn_bd h
  refine gc_SI (c_X4_isText hx1) my_X4_isText ms_X4_isText ml_X4_92 rfl rfl ⟨Nat.le_of_ble_eq_true rfl, Nat.le_of_ble_eq_true rfl⟩ (Nat.le_of_ble_eq_true rfl) dX4_fault_1 (fun fx1 => ?_)
  refine gr_if_ne (tgt := 9) dX4_fault_4 (by decide) h (fun _ h => ?_) (fun _ h => ?_)
  · refine gr_iconst dX4_fault_7 gk_i_m1 ?_
    exact gq_retIM dX4_fault_8 rfl h
  · refine gr_aload_n dX4_fault_9 rfl rfl ?_
    refine gr_getR q_38_7 fl_X4_23 dX4_fault_10 ?_
    refine gr_iload_n dX4_fault_13 rfl rfl ?_
    refine gq_iaload s_42 dX4_fault_14 h (fun x2 h => ?_)
    refine gr_if_ge (tgt := 26) dX4_fault_15 (by decide) h (fun _ h => ?_) (fun _ h => ?_)
    · refine gr_aload_n dX4_fault_18 rfl rfl ?_
      refine gr_iconst dX4_fault_19 gk_i_1 ?_
      obtain ⟨x3, hx3, h⟩ := gn_bd h
      refine gc_VI (c_X4_find hx3) my_X4_find mv_X4_find ob_38 ml_X4_85 rfl rfl ⟨Nat.le_of_ble_eq_true rfl, Nat.le_of_ble_eq_true rfl⟩ (Nat.le_of_ble_eq_true rfl) dX4_fault_20 (fun fx3 => ?_)
      refine gr_goto (tgt := 31) dX4_fault_23 (by decide) ?_
      exact gq_retIM dX4_fault_31 rfl h
    · refine gr_aload_n dX4_fault_26 rfl rfl ?_
      refine gr_iload_n dX4_fault_27 rfl rfl ?_
      obtain ⟨x4, hx4, h⟩ := gn_bd h
      refine gc_VI (c_X4_read hx4) my_X4_read mv_X4_read ob_38 ml_X4_101 rfl rfl ⟨Nat.le_of_ble_eq_true rfl, Nat.le_of_ble_eq_true rfl⟩ (Nat.le_of_ble_eq_true rfl) dX4_fault_28 (fun fx4 => ?_)
      exact gq_retIM dX4_fault_31 rfl h
def L_X4_gate_47 (n : Nat) (k : gn_M → Option (Int32 × gn_M)) : Nat → Int32 → gn_M → Option (Int32 × gn_M)
  | 0, _, _ => none
  | f + 1, v2, m => (if v2 < (m.1 38 10) then gn_rd m 45 14 ((7 : Int32) + v2) (fun x6 => gn_wr m 45 14 v2 x6 (fun m7 => gn_rd m7 46 14 ((7 : Int32) + v2) (fun x8 => gn_wr m7 46 14 v2 x8 (fun m9 => gn_rd m9 47 14 ((7 : Int32) + v2) (fun x10 => (if x10 < (m9.1 38 10) then (if x10 = v2 then gn_wr m9 48 410 ((0 : Int32) + v2) (0 : Int32) (fun m11 => L_X4_gate_47 n k f (v2 + (1 : Int32)) m11) else gn_wr m9 48 410 ((0 : Int32) + v2) ((1 : Int32) <<< (x10 &&& 31)) (fun m12 => L_X4_gate_47 n k f (v2 + (1 : Int32)) m12)) else gn_wr m9 48 410 ((0 : Int32) + v2) (0 : Int32) (fun m13 => L_X4_gate_47 n k f (v2 + (1 : Int32)) m13))))))) else k m)
set_option maxRecDepth 100000 in
set_option maxHeartbeats 4000000 in
theorem l_X4_gate_47 {n : Nat} {k : gn_M → Option (Int32 × gn_M)} {v : Int32 × gn_M} (hk : ∀ (m1 : gn_M), k m1 = some v → gn_Go RX4 cX4_gate 4 2 46 (some .int) none 129 [some (.ref 38), none, none, none] [] m1 (some (.int v.1)) v.2) : ∀ (f : Nat) (v2 : Int32) (m : gn_M), L_X4_gate_47 n k f v2 m = some v → gn_Go RX4 cX4_gate 4 2 46 (some .int) none 47 [some (.ref 38), none, some (.int v2), none] [] m (some (.int v.1)) v.2 := by
  intro f
  induction f with
  | zero =>
    intro v2 m h
    cases h
  | succ f ih =>
    intro v2 m h
    rw [L_X4_gate_47] at h
    refine gr_iload_n dX4_gate_47 rfl rfl ?_
    refine gr_aload_n dX4_gate_48 rfl rfl ?_
    refine gr_getI q_38_10 fl_X4_104 dX4_gate_49 ?_
    refine gr_icmp_ge (tgt := 129) dX4_gate_52 (by decide) h (fun _ h => ?_) (fun _ h => ?_)
    · refine gr_aload_n dX4_gate_55 rfl rfl ?_
      refine gr_getR q_38_11 fl_X4_33 dX4_gate_56 ?_
      refine gr_iload_n dX4_gate_59 rfl rfl ?_
      refine gr_aload_n dX4_gate_60 rfl rfl ?_
      refine gr_getR q_38_11 fl_X4_33 dX4_gate_61 ?_
      refine gr_bipush dX4_gate_64 gk_b_7 ?_
      refine gr_iload_n dX4_gate_66 rfl rfl ?_
      refine gr_iadd dX4_gate_67 ?_
      refine gq_iaload s_45 dX4_gate_68 h (fun x6 h => ?_)
      refine gq_iastore s_45 dX4_gate_69 h (fun m7 h => ?_)
      refine gr_aload_n dX4_gate_70 rfl rfl ?_
      refine gr_getR q_38_12 fl_X4_36 dX4_gate_71 ?_
      refine gr_iload_n dX4_gate_74 rfl rfl ?_
      refine gr_aload_n dX4_gate_75 rfl rfl ?_
      refine gr_getR q_38_12 fl_X4_36 dX4_gate_76 ?_
      refine gr_bipush dX4_gate_79 gk_b_7 ?_
      refine gr_iload_n dX4_gate_81 rfl rfl ?_
      refine gr_iadd dX4_gate_82 ?_
      refine gq_iaload s_46 dX4_gate_83 h (fun x8 h => ?_)
      refine gq_iastore s_46 dX4_gate_84 h (fun m9 h => ?_)
      refine gr_aload_n dX4_gate_85 rfl rfl ?_
      refine gr_getR q_38_13 fl_X4_39 dX4_gate_86 ?_
      refine gr_bipush dX4_gate_89 gk_b_7 ?_
      refine gr_iload_n dX4_gate_91 rfl rfl ?_
      refine gr_iadd dX4_gate_92 ?_
      refine gq_iaload s_47 dX4_gate_93 h (fun x10 h => ?_)
      refine gr_istore_n (lv' := [some (.ref 38), none, some (.int v2), some (.int x10)]) dX4_gate_94 rfl (by decide) rfl ?_
      refine gr_aload_n dX4_gate_95 rfl rfl ?_
      refine gr_getR q_38_15 fl_X4_42 dX4_gate_96 ?_
      refine gr_iconst dX4_gate_99 gk_i_0 ?_
      refine gr_iload_n dX4_gate_100 rfl rfl ?_
      refine gr_iadd dX4_gate_101 ?_
      refine gr_iload_n dX4_gate_102 rfl rfl ?_
      refine gr_aload_n dX4_gate_103 rfl rfl ?_
      refine gr_getI q_38_10 fl_X4_104 dX4_gate_104 ?_
      refine gr_icmp_ge (tgt := 121) dX4_gate_107 (by decide) h (fun _ h => ?_) (fun _ h => ?_)
      · refine gr_iload_n dX4_gate_110 rfl rfl ?_
        refine gr_iload_n dX4_gate_111 rfl rfl ?_
        refine gr_icmp_eq (tgt := 121) dX4_gate_112 (by decide) h (fun _ h => ?_) (fun _ h => ?_)
        · refine gr_iconst dX4_gate_121 gk_i_0 ?_
          refine gq_iastore s_48 dX4_gate_122 h (fun m11 h => ?_)
          refine gr_iinc (lv' := [some (.ref 38), none, some (.int (v2 + (1 : Int32))), some (.int x10)]) dX4_gate_123 rfl gk_i_1 (by decide) rfl ?_
          refine gr_goto (tgt := 47) dX4_gate_126 (by decide) ?_
          refine gn_wkn [true, false, true, false] rfl ?_
          exact ih _ _ h
        · refine gr_iconst dX4_gate_115 gk_i_1 ?_
          refine gr_iload_n dX4_gate_116 rfl rfl ?_
          refine gr_ishl dX4_gate_117 ?_
          refine gr_goto (tgt := 122) dX4_gate_118 (by decide) ?_
          refine gq_iastore s_48 dX4_gate_122 h (fun m12 h => ?_)
          refine gr_iinc (lv' := [some (.ref 38), none, some (.int (v2 + (1 : Int32))), some (.int x10)]) dX4_gate_123 rfl gk_i_1 (by decide) rfl ?_
          refine gr_goto (tgt := 47) dX4_gate_126 (by decide) ?_
          refine gn_wkn [true, false, true, false] rfl ?_
          exact ih _ _ h
      · refine gr_iconst dX4_gate_121 gk_i_0 ?_
        refine gq_iastore s_48 dX4_gate_122 h (fun m13 h => ?_)
        refine gr_iinc (lv' := [some (.ref 38), none, some (.int (v2 + (1 : Int32))), some (.int x10)]) dX4_gate_123 rfl gk_i_1 (by decide) rfl ?_
        refine gr_goto (tgt := 47) dX4_gate_126 (by decide) ?_
        refine gn_wkn [true, false, true, false] rfl ?_
        exact ih _ _ h
    · refine gn_wkn [true, false, false, false] rfl ?_
      exact hk _ h
def L_X4_gate_161 (n : Nat) (k : gn_M → Option (Int32 × gn_M)) : Nat → Int32 → gn_M → Option (Int32 × gn_M)
  | 0, _, _ => none
  | f + 1, v2, m => (if v2 < (3 : Int32) then gn_wr m 50 3 v2 (-1 : Int32) (fun m19 => L_X4_gate_161 n k f (v2 + (1 : Int32)) m19) else k m)
set_option maxRecDepth 100000 in
set_option maxHeartbeats 4000000 in
theorem l_X4_gate_161 {n : Nat} {k : gn_M → Option (Int32 × gn_M)} {v : Int32 × gn_M} (hk : ∀ (m1 : gn_M), k m1 = some v → gn_Go RX4 cX4_gate 4 2 46 (some .int) none 179 [some (.ref 38), none, none, none] [] m1 (some (.int v.1)) v.2) : ∀ (f : Nat) (v2 : Int32) (m : gn_M), L_X4_gate_161 n k f v2 m = some v → gn_Go RX4 cX4_gate 4 2 46 (some .int) none 161 [some (.ref 38), none, some (.int v2), none] [] m (some (.int v.1)) v.2 := by
  intro f
  induction f with
  | zero =>
    intro v2 m h
    cases h
  | succ f ih =>
    intro v2 m h
    rw [L_X4_gate_161] at h
    refine gr_iload_n dX4_gate_161 rfl rfl ?_
    refine gr_iconst dX4_gate_162 gk_i_3 ?_
    refine gr_icmp_ge (tgt := 179) dX4_gate_163 (by decide) h (fun _ h => ?_) (fun _ h => ?_)
    · refine gr_aload_n dX4_gate_166 rfl rfl ?_
      refine gr_getR q_38_18 fl_X4_48 dX4_gate_167 ?_
      refine gr_iload_n dX4_gate_170 rfl rfl ?_
      refine gr_iconst dX4_gate_171 gk_i_m1 ?_
      refine gq_iastore s_50 dX4_gate_172 h (fun m19 h => ?_)
      refine gr_iinc (lv' := [some (.ref 38), none, some (.int (v2 + (1 : Int32))), none]) dX4_gate_173 rfl gk_i_1 (by decide) rfl ?_
      refine gr_goto (tgt := 161) dX4_gate_176 (by decide) ?_
      exact ih _ _ h
    · refine gn_wkn [true, false, false, false] rfl ?_
      exact hk _ h
def f_X4_gate (n : Nat) (m : gn_M) (p0 : Int32) : Option (Int32 × gn_M) := (f_X4_isText p0).bind (fun x1 => (if x1 = 0 then some ((-1 : Int32), m) else gn_rd m 42 4 p0 (fun x2 => (if x2 < 0 then (f_X4_find m (1 : Int32)).bind (fun x3 => some (x3.1, x3.2)) else (f_X4_read n m p0).bind (fun x4 => (if x4.1 = (-9 : Int32) then gn_pf x4.2 38 10 (x4.2.1 38 14) (fun m5 => L_X4_gate_47 n (fun (m14 : gn_M) => gn_wr m14 48 410 (7 : Int32) (0 : Int32) (fun m15 => gn_wr m15 48 410 (8 : Int32) (-9 : Int32) (fun m16 => gn_wr m16 48 410 (9 : Int32) (0 : Int32) (fun m17 => gn_pf m17 38 16 (0 : Int32) (fun m18 => L_X4_gate_161 n (fun (m20 : gn_M) => some ((m20.1 38 10), m20)) n (0 : Int32) m18))))) n (0 : Int32) m5) else some ((-4 : Int32), x4.2)))))))
set_option maxRecDepth 100000 in
set_option maxHeartbeats 4000000 in
theorem c_X4_gate {n : Nat} {m : gn_M} {p0 : Int32} {v : Int32 × gn_M} (h : f_X4_gate n m p0 = some v) : gn_Cl yX4_gate cX4_gate 4 (some .int) 2 46 [.ref 38, .int p0] m (some (.int v.1)) v.2 := by
  rw [f_X4_gate] at h
  refine gn_met (lv := [some (.ref 38), some (.int p0), none, none]) pl_X4 rfl rfl (Nat.le_of_ble_eq_true rfl) ?_
  refine gr_iload_n dX4_gate_0 rfl rfl ?_
  obtain ⟨x1, hx1, h⟩ := gn_bd h
  refine gc_SI (c_X4_isText hx1) my_X4_isText ms_X4_isText ml_X4_92 rfl rfl ⟨Nat.le_of_ble_eq_true rfl, Nat.le_of_ble_eq_true rfl⟩ (Nat.le_of_ble_eq_true rfl) dX4_gate_1 (fun fx1 => ?_)
  refine gr_if_ne (tgt := 9) dX4_gate_4 (by decide) h (fun _ h => ?_) (fun _ h => ?_)
  · refine gr_iconst dX4_gate_7 gk_i_m1 ?_
    exact gq_retIM dX4_gate_8 rfl h
  · refine gr_aload_n dX4_gate_9 rfl rfl ?_
    refine gr_getR q_38_7 fl_X4_23 dX4_gate_10 ?_
    refine gr_iload_n dX4_gate_13 rfl rfl ?_
    refine gq_iaload s_42 dX4_gate_14 h (fun x2 h => ?_)
    refine gr_if_ge (tgt := 24) dX4_gate_15 (by decide) h (fun _ h => ?_) (fun _ h => ?_)
    · refine gr_aload_n dX4_gate_18 rfl rfl ?_
      refine gr_iconst dX4_gate_19 gk_i_1 ?_
      obtain ⟨x3, hx3, h⟩ := gn_bd h
      refine gc_VI (c_X4_find hx3) my_X4_find mv_X4_find ob_38 ml_X4_85 rfl rfl ⟨Nat.le_of_ble_eq_true rfl, Nat.le_of_ble_eq_true rfl⟩ (Nat.le_of_ble_eq_true rfl) dX4_gate_20 (fun fx3 => ?_)
      exact gq_retIM dX4_gate_23 rfl h
    · refine gr_aload_n dX4_gate_24 rfl rfl ?_
      refine gr_iload_n dX4_gate_25 rfl rfl ?_
      obtain ⟨x4, hx4, h⟩ := gn_bd h
      refine gc_VI (c_X4_read hx4) my_X4_read mv_X4_read ob_38 ml_X4_101 rfl rfl ⟨Nat.le_of_ble_eq_true rfl, Nat.le_of_ble_eq_true rfl⟩ (Nat.le_of_ble_eq_true rfl) dX4_gate_26 (fun fx4 => ?_)
      refine gr_bipush dX4_gate_29 gk_b_m9 ?_
      refine gr_icmp_eq (tgt := 37) dX4_gate_31 (by decide) h (fun _ h => ?_) (fun _ h => ?_)
      · refine gr_aload_n dX4_gate_37 rfl rfl ?_
        refine gr_aload_n dX4_gate_38 rfl rfl ?_
        refine gr_getI q_38_14 fl_X4_95 dX4_gate_39 ?_
        refine gq_putI q_38_10 rfl rfl fl_X4_104 dX4_gate_42 h (fun m5 h => ?_)
        refine gr_iconst dX4_gate_45 gk_i_0 ?_
        refine gr_istore_n (lv' := [some (.ref 38), some (.int p0), some (.int (0 : Int32)), none]) dX4_gate_46 rfl (by decide) rfl ?_
        refine gn_wkn [true, false, true, false] rfl ?_
        refine l_X4_gate_47 (fun m14 h => ?_) _ _ _ h
        refine gr_aload_n dX4_gate_129 rfl rfl ?_
        refine gr_getR q_38_15 fl_X4_42 dX4_gate_130 ?_
        refine gr_bipush dX4_gate_133 gk_b_7 ?_
        refine gr_iconst dX4_gate_135 gk_i_0 ?_
        refine gq_iastore s_48 dX4_gate_136 h (fun m15 h => ?_)
        refine gr_aload_n dX4_gate_137 rfl rfl ?_
        refine gr_getR q_38_15 fl_X4_42 dX4_gate_138 ?_
        refine gr_bipush dX4_gate_141 gk_b_8 ?_
        refine gr_bipush dX4_gate_143 gk_b_m9 ?_
        refine gq_iastore s_48 dX4_gate_145 h (fun m16 h => ?_)
        refine gr_aload_n dX4_gate_146 rfl rfl ?_
        refine gr_getR q_38_15 fl_X4_42 dX4_gate_147 ?_
        refine gr_bipush dX4_gate_150 gk_b_9 ?_
        refine gr_iconst dX4_gate_152 gk_i_0 ?_
        refine gq_iastore s_48 dX4_gate_153 h (fun m17 h => ?_)
        refine gr_aload_n dX4_gate_154 rfl rfl ?_
        refine gr_iconst dX4_gate_155 gk_i_0 ?_
        refine gq_putI q_38_16 rfl rfl fl_X4_107 dX4_gate_156 h (fun m18 h => ?_)
        refine gr_iconst dX4_gate_159 gk_i_0 ?_
        refine gr_istore_n (lv' := [some (.ref 38), none, some (.int (0 : Int32)), none]) dX4_gate_160 rfl (by decide) rfl ?_
        refine l_X4_gate_161 (fun m20 h => ?_) _ _ _ h
        refine gr_aload_n dX4_gate_179 rfl rfl ?_
        refine gr_getI q_38_10 fl_X4_104 dX4_gate_180 ?_
        exact gq_retIM dX4_gate_183 rfl h
      · refine gr_bipush dX4_gate_34 gk_b_m4 ?_
        exact gq_retIM dX4_gate_36 rfl h
def f_X4_isGoer (m : gn_M) (p0 : Int32) : Option (Int32) := (f_X4_in p0 (0 : Int32) ((m.1 38 10) - (1 : Int32))).bind (fun x1 => some x1)
set_option maxRecDepth 100000 in
set_option maxHeartbeats 4000000 in
theorem c_X4_isGoer {m : gn_M} {p0 : Int32} {v : Int32} (h : f_X4_isGoer m p0 = some v) : gn_Cl yX4_isGoer cX4_isGoer 2 (some .boolean) 1 22 [.ref 38, .int p0] m (some (.int v)) m := by
  rw [f_X4_isGoer] at h
  refine gn_met (lv := [some (.ref 38), some (.int p0)]) pl_X4 rfl rfl (Nat.le_of_ble_eq_true rfl) ?_
  refine gr_iload_n dX4_isGoer_0 rfl rfl ?_
  refine gr_iconst dX4_isGoer_1 gk_i_0 ?_
  refine gr_aload_n dX4_isGoer_2 rfl rfl ?_
  refine gr_getI q_38_10 fl_X4_104 dX4_isGoer_3 ?_
  refine gr_iconst dX4_isGoer_6 gk_i_1 ?_
  refine gr_isub dX4_isGoer_7 ?_
  obtain ⟨x1, hx1, h⟩ := gn_bd h
  refine gc_SI (c_X4_in hx1) my_X4_in ms_X4_in ml_X4_77 rfl rfl ⟨Nat.le_of_ble_eq_true rfl, Nat.le_of_ble_eq_true rfl⟩ (Nat.le_of_ble_eq_true rfl) dX4_isGoer_8 (fun fx1 => ?_)
  exact gq_retI dX4_isGoer_11 fx1 h
def f_X4_now (m : gn_M) (p0 : Int32) : Option (Int32) := gn_rd m 48 410 (((10 : Int32) * (m.1 38 16)) + p0) (fun x1 => some x1)
set_option maxRecDepth 100000 in
set_option maxHeartbeats 4000000 in
theorem c_X4_now {m : gn_M} {p0 : Int32} {v : Int32} (h : f_X4_now m p0 = some v) : gn_Cl yX4_now cX4_now 2 (some .int) 0 0 [.ref 38, .int p0] m (some (.int v)) m := by
  rw [f_X4_now] at h
  refine gn_met (lv := [some (.ref 38), some (.int p0)]) pl_X4 rfl rfl (Nat.le_of_ble_eq_true rfl) ?_
  refine gr_aload_n dX4_now_0 rfl rfl ?_
  refine gr_getR q_38_15 fl_X4_42 dX4_now_1 ?_
  refine gr_bipush dX4_now_4 gk_b_10 ?_
  refine gr_aload_n dX4_now_6 rfl rfl ?_
  refine gr_getI q_38_16 fl_X4_107 dX4_now_7 ?_
  refine gr_imul dX4_now_10 ?_
  refine gr_iload_n dX4_now_11 rfl rfl ?_
  refine gr_iadd dX4_now_12 ?_
  refine gq_iaload s_48 dX4_now_13 h (fun x1 h => ?_)
  exact gq_retI dX4_now_14 rfl h
def f_X4_toldOf (m : gn_M) (p0 : Int32) : Option (Int32) := (f_X4_now m ((0 : Int32) + p0)).bind (fun x1 => some x1)
set_option maxRecDepth 100000 in
set_option maxHeartbeats 4000000 in
theorem c_X4_toldOf {m : gn_M} {p0 : Int32} {v : Int32} (h : f_X4_toldOf m p0 = some v) : gn_Cl yX4_toldOf cX4_toldOf 2 (some .int) 1 21 [.ref 38, .int p0] m (some (.int v)) m := by
  rw [f_X4_toldOf] at h
  refine gn_met (lv := [some (.ref 38), some (.int p0)]) pl_X4 rfl rfl (Nat.le_of_ble_eq_true rfl) ?_
  refine gr_aload_n dX4_toldOf_0 rfl rfl ?_
  refine gr_iconst dX4_toldOf_1 gk_i_0 ?_
  refine gr_iload_n dX4_toldOf_2 rfl rfl ?_
  refine gr_iadd dX4_toldOf_3 ?_
  obtain ⟨x1, hx1, h⟩ := gn_bd h
  refine gc_VI (c_X4_now hx1) my_X4_now mv_X4_now ob_38 ml_X4_110 rfl rfl ⟨Nat.le_of_ble_eq_true rfl, Nat.le_of_ble_eq_true rfl⟩ (Nat.le_of_ble_eq_true rfl) dX4_toldOf_4 (fun fx1 => ?_)
  exact gq_retI dX4_toldOf_7 rfl h
def f_X4_tellsBy (p0 : Int32) (p1 : Int32) (p2 : Int32) : Option (Int32) := (if p1 = 3 then some (0 : Int32) else (if p1 = 4 then some ((p2 &&& (((1 : Int32) <<< (p0 &&& 31)) ^^^ (-1 : Int32))) ||| ((1 : Int32) <<< (p0 &&& 31))) else (if p1 = 5 then some (p2 &&& (((1 : Int32) <<< (p0 &&& 31)) ^^^ (-1 : Int32))) else some ((1 : Int32) <<< (p0 &&& 31)))))
set_option maxRecDepth 100000 in
set_option maxHeartbeats 4000000 in
theorem c_X4_tellsBy {m : gn_M} {p0 : Int32} {p1 : Int32} {p2 : Int32} {v : Int32} (h : f_X4_tellsBy p0 p1 p2 = some v) : gn_Cl yX4_tellsBy cX4_tellsBy 4 (some .int) 0 0 [.int p0, .int p1, .int p2] m (some (.int v)) m := by
  rw [f_X4_tellsBy] at h
  refine gn_met (lv := [some (.int p0), some (.int p1), some (.int p2), none]) pl_X4 rfl rfl (Nat.le_of_ble_eq_true rfl) ?_
  refine gr_iload_n dX4_tellsBy_0 rfl rfl ?_
  refine gr_iconst dX4_tellsBy_1 gk_i_1 ?_
  refine gr_iload_n dX4_tellsBy_2 rfl rfl ?_
  refine gr_ishl dX4_tellsBy_3 ?_
  refine gr_iconst dX4_tellsBy_4 gk_i_m1 ?_
  refine gr_ixor dX4_tellsBy_5 ?_
  refine gr_iand dX4_tellsBy_6 ?_
  refine gr_istore_n (lv' := [some (.int p0), some (.int p1), some (.int p2), some (.int (p2 &&& (((1 : Int32) <<< (p0 &&& 31)) ^^^ (-1 : Int32))))]) dX4_tellsBy_7 rfl (by decide) rfl ?_
  refine gr_iload_n dX4_tellsBy_8 rfl rfl ?_
  refine gn_sw h (fun hs0 h => ?_) (fun hs0 h => ?_)
  · refine gr_tsIn (tgt := 36) dX4_tellsBy_9 hs0 (by decide) (by decide) rfl (by decide) ?_
    refine gr_iconst dX4_tellsBy_36 gk_i_0 ?_
    exact gq_retI dX4_tellsBy_37 rfl h
  refine gn_sw h (fun hs1 h => ?_) (fun hs1 h => ?_)
  · refine gr_tsIn (tgt := 38) dX4_tellsBy_9 hs1 (by decide) (by decide) rfl (by decide) ?_
    refine gr_iload_n dX4_tellsBy_38 rfl rfl ?_
    refine gr_iconst dX4_tellsBy_39 gk_i_1 ?_
    refine gr_iload_n dX4_tellsBy_40 rfl rfl ?_
    refine gr_ishl dX4_tellsBy_41 ?_
    refine gr_ior dX4_tellsBy_42 ?_
    exact gq_retI dX4_tellsBy_43 rfl h
  refine gn_sw h (fun hs2 h => ?_) (fun hs2 h => ?_)
  · refine gr_tsIn (tgt := 44) dX4_tellsBy_9 hs2 (by decide) (by decide) rfl (by decide) ?_
    refine gr_iload_n dX4_tellsBy_44 rfl rfl ?_
    exact gq_retI dX4_tellsBy_45 rfl h
  refine gr_tsOut (tgt := 46) dX4_tellsBy_9 (by have := gn_out (x := p1) 3 3 (fun j hj => match j, hj with | 0, _ => hs0 | 1, _ => hs1 | 2, _ => hs2 | j + 3, hj => absurd hj (by omega)); omega) (by decide) ?_
  refine gr_iconst dX4_tellsBy_46 gk_i_1 ?_
  refine gr_iload_n dX4_tellsBy_47 rfl rfl ?_
  refine gr_ishl dX4_tellsBy_48 ?_
  exact gq_retI dX4_tellsBy_49 rfl h
def f_X4_tellsOf (m : gn_M) (p0 : Int32) : Option (Int32) := gn_rd m 45 14 p0 (fun x1 => (f_X4_toldOf m p0).bind (fun x2 => (f_X4_tellsBy p0 x1 x2).bind (fun x3 => some x3)))
set_option maxRecDepth 100000 in
set_option maxHeartbeats 4000000 in
theorem c_X4_tellsOf {m : gn_M} {p0 : Int32} {v : Int32} (h : f_X4_tellsOf m p0 = some v) : gn_Cl yX4_tellsOf cX4_tellsOf 2 (some .int) 2 42 [.ref 38, .int p0] m (some (.int v)) m := by
  rw [f_X4_tellsOf] at h
  refine gn_met (lv := [some (.ref 38), some (.int p0)]) pl_X4 rfl rfl (Nat.le_of_ble_eq_true rfl) ?_
  refine gr_iload_n dX4_tellsOf_0 rfl rfl ?_
  refine gr_aload_n dX4_tellsOf_1 rfl rfl ?_
  refine gr_getR q_38_11 fl_X4_33 dX4_tellsOf_2 ?_
  refine gr_iload_n dX4_tellsOf_5 rfl rfl ?_
  refine gq_iaload s_45 dX4_tellsOf_6 h (fun x1 h => ?_)
  refine gr_aload_n dX4_tellsOf_7 rfl rfl ?_
  refine gr_iload_n dX4_tellsOf_8 rfl rfl ?_
  obtain ⟨x2, hx2, h⟩ := gn_bd h
  refine gc_VI (c_X4_toldOf hx2) my_X4_toldOf mv_X4_toldOf ob_38 ml_X4_113 rfl rfl ⟨Nat.le_of_ble_eq_true rfl, Nat.le_of_ble_eq_true rfl⟩ (Nat.le_of_ble_eq_true rfl) dX4_tellsOf_9 (fun fx2 => ?_)
  obtain ⟨x3, hx3, h⟩ := gn_bd h
  refine gc_SI (c_X4_tellsBy hx3) my_X4_tellsBy ms_X4_tellsBy ml_X4_116 rfl rfl ⟨Nat.le_of_ble_eq_true rfl, Nat.le_of_ble_eq_true rfl⟩ (Nat.le_of_ble_eq_true rfl) dX4_tellsOf_12 (fun fx3 => ?_)
  exact gq_retI dX4_tellsOf_15 rfl h
def L_X4_ofKind_4 (n : Nat) (m : gn_M) (a1 : Int32) (k : Int32 → Option (Int32)) : Nat → Int32 → Int32 → Option (Int32)
  | 0, _, _ => none
  | f + 1, v2, v3 => (if v3 < (m.1 38 10) then gn_rd m 45 14 v3 (fun x1 => (if x1 = a1 then L_X4_ofKind_4 n m a1 k f (v2 ||| ((1 : Int32) <<< (v3 &&& 31))) (v3 + (1 : Int32)) else L_X4_ofKind_4 n m a1 k f (v2 ||| (0 : Int32)) (v3 + (1 : Int32)))) else k v2)
set_option maxRecDepth 100000 in
set_option maxHeartbeats 4000000 in
theorem l_X4_ofKind_4 {n : Nat} {m : gn_M} {a1 : Int32} {k : Int32 → Option (Int32)} {v : Int32} (hk : ∀ (e2 : Int32), k e2 = some v → gn_Go RX4 cX4_ofKind 4 0 0 (some .int) none 38 [none, none, some (.int e2), none] [] m (some (.int v)) m) : ∀ (f : Nat) (v2 : Int32) (v3 : Int32), L_X4_ofKind_4 n m a1 k f v2 v3 = some v → gn_Go RX4 cX4_ofKind 4 0 0 (some .int) none 4 [some (.ref 38), some (.int a1), some (.int v2), some (.int v3)] [] m (some (.int v)) m := by
  intro f
  induction f with
  | zero =>
    intro v2 v3 h
    cases h
  | succ f ih =>
    intro v2 v3 h
    rw [L_X4_ofKind_4] at h
    refine gr_iload_n dX4_ofKind_4 rfl rfl ?_
    refine gr_aload_n dX4_ofKind_5 rfl rfl ?_
    refine gr_getI q_38_10 fl_X4_104 dX4_ofKind_6 ?_
    refine gr_icmp_ge (tgt := 38) dX4_ofKind_9 (by decide) h (fun _ h => ?_) (fun _ h => ?_)
    · refine gr_iload_n dX4_ofKind_12 rfl rfl ?_
      refine gr_aload_n dX4_ofKind_13 rfl rfl ?_
      refine gr_getR q_38_11 fl_X4_33 dX4_ofKind_14 ?_
      refine gr_iload_n dX4_ofKind_17 rfl rfl ?_
      refine gq_iaload s_45 dX4_ofKind_18 h (fun x1 h => ?_)
      refine gr_iload_n dX4_ofKind_19 rfl rfl ?_
      refine gr_icmp_ne (tgt := 29) dX4_ofKind_20 (by decide) h (fun _ h => ?_) (fun _ h => ?_)
      · refine gr_iconst dX4_ofKind_23 gk_i_1 ?_
        refine gr_iload_n dX4_ofKind_24 rfl rfl ?_
        refine gr_ishl dX4_ofKind_25 ?_
        refine gr_goto (tgt := 30) dX4_ofKind_26 (by decide) ?_
        refine gr_ior dX4_ofKind_30 ?_
        refine gr_istore_n (lv' := [some (.ref 38), some (.int a1), some (.int (v2 ||| ((1 : Int32) <<< (v3 &&& 31)))), some (.int v3)]) dX4_ofKind_31 rfl (by decide) rfl ?_
        refine gr_iinc (lv' := [some (.ref 38), some (.int a1), some (.int (v2 ||| ((1 : Int32) <<< (v3 &&& 31)))), some (.int (v3 + (1 : Int32)))]) dX4_ofKind_32 rfl gk_i_1 (by decide) rfl ?_
        refine gr_goto (tgt := 4) dX4_ofKind_35 (by decide) ?_
        exact ih _ _ h
      · refine gr_iconst dX4_ofKind_29 gk_i_0 ?_
        refine gr_ior dX4_ofKind_30 ?_
        refine gr_istore_n (lv' := [some (.ref 38), some (.int a1), some (.int (v2 ||| (0 : Int32))), some (.int v3)]) dX4_ofKind_31 rfl (by decide) rfl ?_
        refine gr_iinc (lv' := [some (.ref 38), some (.int a1), some (.int (v2 ||| (0 : Int32))), some (.int (v3 + (1 : Int32)))]) dX4_ofKind_32 rfl gk_i_1 (by decide) rfl ?_
        refine gr_goto (tgt := 4) dX4_ofKind_35 (by decide) ?_
        exact ih _ _ h
    · refine gn_wkn [false, false, true, false] rfl ?_
      exact hk _ h
def f_X4_ofKind (n : Nat) (m : gn_M) (p0 : Int32) : Option (Int32) := L_X4_ofKind_4 n m p0 (fun (e2 : Int32) => some e2) n (0 : Int32) (0 : Int32)
set_option maxRecDepth 100000 in
set_option maxHeartbeats 4000000 in
theorem c_X4_ofKind {n : Nat} {m : gn_M} {p0 : Int32} {v : Int32} (h : f_X4_ofKind n m p0 = some v) : gn_Cl yX4_ofKind cX4_ofKind 4 (some .int) 0 0 [.ref 38, .int p0] m (some (.int v)) m := by
  rw [f_X4_ofKind] at h
  refine gn_met (lv := [some (.ref 38), some (.int p0), none, none]) pl_X4 rfl rfl (Nat.le_of_ble_eq_true rfl) ?_
  refine gr_iconst dX4_ofKind_0 gk_i_0 ?_
  refine gr_istore_n (lv' := [some (.ref 38), some (.int p0), some (.int (0 : Int32)), none]) dX4_ofKind_1 rfl (by decide) rfl ?_
  refine gr_iconst dX4_ofKind_2 gk_i_0 ?_
  refine gr_istore_n (lv' := [some (.ref 38), some (.int p0), some (.int (0 : Int32)), some (.int (0 : Int32))]) dX4_ofKind_3 rfl (by decide) rfl ?_
  refine l_X4_ofKind_4 (fun e2 h => ?_) _ _ _ h
  refine gr_iload_n dX4_ofKind_38 rfl rfl ?_
  exact gq_retI dX4_ofKind_39 rfl h
def f_X4_has (p0 : Int32) (p1 : Int32) : Option (Int32) := (if ((p0 >>> (p1 &&& 31)) &&& (1 : Int32)) = (1 : Int32) then some (1 : Int32) else some (0 : Int32))
set_option maxRecDepth 100000 in
set_option maxHeartbeats 4000000 in
theorem c_X4_has {m : gn_M} {p0 : Int32} {p1 : Int32} {v : Int32} (h : f_X4_has p0 p1 = some v) : gn_Cl yX4_has cX4_has 2 (some .boolean) 0 0 [.int p0, .int p1] m (some (.int v)) m := by
  rw [f_X4_has] at h
  refine gn_met (lv := [some (.int p0), some (.int p1)]) pl_X4 rfl rfl (Nat.le_of_ble_eq_true rfl) ?_
  refine gr_iload_n dX4_has_0 rfl rfl ?_
  refine gr_iload_n dX4_has_1 rfl rfl ?_
  refine gr_ishr dX4_has_2 ?_
  refine gr_iconst dX4_has_3 gk_i_1 ?_
  refine gr_iand dX4_has_4 ?_
  refine gr_iconst dX4_has_5 gk_i_1 ?_
  refine gr_icmp_ne (tgt := 13) dX4_has_6 (by decide) h (fun _ h => ?_) (fun _ h => ?_)
  · refine gr_iconst dX4_has_9 gk_i_1 ?_
    refine gr_goto (tgt := 14) dX4_has_10 (by decide) ?_
    exact gq_retI dX4_has_14 rfl h
  · refine gr_iconst dX4_has_13 gk_i_0 ?_
    exact gq_retI dX4_has_14 rfl h
def f_X4_namesBy (n : Nat) (m : gn_M) (p0 : Int32) (p1 : Int32) : Option (Int32) := (f_X4_ofKind n m (2 : Int32)).bind (fun x1 => (f_X4_has x1 p0).bind (fun x2 => (f_X4_ofKind n m (1 : Int32)).bind (fun x4 => (if (if x2 = 0 then (if (p1 &&& x1) = 0 then (0 : Int32) else (1 : Int32)) else (1 : Int32)) = 0 then some (((p1 ||| ((1 : Int32) <<< (p0 &&& 31))) ||| x4) ||| (0 : Int32)) else some (((p1 ||| ((1 : Int32) <<< (p0 &&& 31))) ||| x4) ||| x1)))))
set_option maxRecDepth 100000 in
set_option maxHeartbeats 4000000 in
theorem c_X4_namesBy {n : Nat} {m : gn_M} {p0 : Int32} {p1 : Int32} {v : Int32} (h : f_X4_namesBy n m p0 p1 = some v) : gn_Cl yX4_namesBy cX4_namesBy 5 (some .int) 1 23 [.ref 38, .int p0, .int p1] m (some (.int v)) m := by
  rw [f_X4_namesBy] at h
  refine gn_met (lv := [some (.ref 38), some (.int p0), some (.int p1), none, none]) pl_X4 rfl rfl (Nat.le_of_ble_eq_true rfl) ?_
  refine gr_aload_n dX4_namesBy_0 rfl rfl ?_
  refine gr_iconst dX4_namesBy_1 gk_i_2 ?_
  obtain ⟨x1, hx1, h⟩ := gn_bd h
  refine gc_VI (c_X4_ofKind hx1) my_X4_ofKind mv_X4_ofKind ob_38 ml_X4_120 rfl rfl ⟨Nat.le_of_ble_eq_true rfl, Nat.le_of_ble_eq_true rfl⟩ (Nat.le_of_ble_eq_true rfl) dX4_namesBy_2 (fun fx1 => ?_)
  refine gr_istore_n (lv' := [some (.ref 38), some (.int p0), some (.int p1), some (.int x1), none]) dX4_namesBy_5 rfl (by decide) rfl ?_
  refine gr_iload_n dX4_namesBy_6 rfl rfl ?_
  refine gr_iload_n dX4_namesBy_7 rfl rfl ?_
  obtain ⟨x2, hx2, h⟩ := gn_bd h
  refine gc_SI (c_X4_has hx2) my_X4_has ms_X4_has ml_X4_123 rfl rfl ⟨Nat.le_of_ble_eq_true rfl, Nat.le_of_ble_eq_true rfl⟩ (Nat.le_of_ble_eq_true rfl) dX4_namesBy_8 (fun fx2 => ?_)
  have hJ : ∀ y3 : Int32, y3 = (if x2 = 0 then (if (p1 &&& x1) = 0 then (0 : Int32) else (1 : Int32)) else (1 : Int32)) → gn_Go RX4 cX4_namesBy 5 1 23 (some .int) none 25 [some (.ref 38), some (.int p0), some (.int p1), some (.int x1), none] [.int y3] m (some (.int v)) m := by
    intro y3 hx
    subst hx
    refine gr_istore (lv' := [some (.ref 38), some (.int p0), some (.int p1), some (.int x1), some (.int (if x2 = 0 then (if (p1 &&& x1) = 0 then (0 : Int32) else (1 : Int32)) else (1 : Int32)))]) dX4_namesBy_25 (by decide) rfl ?_
    refine gr_iload_n dX4_namesBy_27 rfl rfl ?_
    refine gr_iconst dX4_namesBy_28 gk_i_1 ?_
    refine gr_iload_n dX4_namesBy_29 rfl rfl ?_
    refine gr_ishl dX4_namesBy_30 ?_
    refine gr_ior dX4_namesBy_31 ?_
    refine gr_aload_n dX4_namesBy_32 rfl rfl ?_
    refine gr_iconst dX4_namesBy_33 gk_i_1 ?_
    obtain ⟨x4, hx4, h⟩ := gn_bd h
    refine gc_VI (c_X4_ofKind hx4) my_X4_ofKind mv_X4_ofKind ob_38 ml_X4_120 rfl rfl ⟨Nat.le_of_ble_eq_true rfl, Nat.le_of_ble_eq_true rfl⟩ (Nat.le_of_ble_eq_true rfl) dX4_namesBy_34 (fun fx4 => ?_)
    refine gr_ior dX4_namesBy_37 ?_
    refine gr_iload dX4_namesBy_38 rfl ?_
    refine gr_if_eq (tgt := 47) dX4_namesBy_40 (by decide) h (fun _ h => ?_) (fun _ h => ?_)
    · refine gr_iconst dX4_namesBy_47 gk_i_0 ?_
      refine gr_ior dX4_namesBy_48 ?_
      exact gq_retI dX4_namesBy_49 rfl h
    · refine gr_iload_n dX4_namesBy_43 rfl rfl ?_
      refine gr_goto (tgt := 48) dX4_namesBy_44 (by decide) ?_
      refine gr_ior dX4_namesBy_48 ?_
      exact gq_retI dX4_namesBy_49 rfl h
  by_cases hc0 : x2 = 0
  · refine gr_ifT_ne (tgt := 20) dX4_namesBy_11 (by decide) hc0 ?_
    refine gr_iload_n dX4_namesBy_14 rfl rfl ?_
    refine gr_iload_n dX4_namesBy_15 rfl rfl ?_
    refine gr_iand dX4_namesBy_16 ?_
    by_cases hc1 : (p1 &&& x1) = 0
    · refine gr_ifT_eq (tgt := 24) dX4_namesBy_17 (by decide) hc1 ?_
      refine gr_iconst dX4_namesBy_24 gk_i_0 ?_
      exact hJ _ (by rw [if_pos hc0, if_pos hc1])
    · refine gr_ifF_eq (tgt := 24) dX4_namesBy_17 (by decide) hc1 ?_
      refine gr_iconst dX4_namesBy_20 gk_i_1 ?_
      refine gr_goto (tgt := 25) dX4_namesBy_21 (by decide) ?_
      exact hJ _ (by rw [if_pos hc0, if_neg hc1])
  · refine gr_ifF_ne (tgt := 20) dX4_namesBy_11 (by decide) hc0 ?_
    refine gr_iconst dX4_namesBy_20 gk_i_1 ?_
    refine gr_goto (tgt := 25) dX4_namesBy_21 (by decide) ?_
    exact hJ _ (by rw [if_neg hc0])
def f_X4_namesOf (n : Nat) (m : gn_M) (p0 : Int32) : Option (Int32) := (f_X4_toldOf m p0).bind (fun x1 => (f_X4_namesBy n m p0 x1).bind (fun x2 => some x2))
set_option maxRecDepth 100000 in
set_option maxHeartbeats 4000000 in
theorem c_X4_namesOf {n : Nat} {m : gn_M} {p0 : Int32} {v : Int32} (h : f_X4_namesOf n m p0 = some v) : gn_Cl yX4_namesOf cX4_namesOf 2 (some .int) 2 47 [.ref 38, .int p0] m (some (.int v)) m := by
  rw [f_X4_namesOf] at h
  refine gn_met (lv := [some (.ref 38), some (.int p0)]) pl_X4 rfl rfl (Nat.le_of_ble_eq_true rfl) ?_
  refine gr_aload_n dX4_namesOf_0 rfl rfl ?_
  refine gr_iload_n dX4_namesOf_1 rfl rfl ?_
  refine gr_aload_n dX4_namesOf_2 rfl rfl ?_
  refine gr_iload_n dX4_namesOf_3 rfl rfl ?_
  obtain ⟨x1, hx1, h⟩ := gn_bd h
  refine gc_VI (c_X4_toldOf hx1) my_X4_toldOf mv_X4_toldOf ob_38 ml_X4_113 rfl rfl ⟨Nat.le_of_ble_eq_true rfl, Nat.le_of_ble_eq_true rfl⟩ (Nat.le_of_ble_eq_true rfl) dX4_namesOf_4 (fun fx1 => ?_)
  obtain ⟨x2, hx2, h⟩ := gn_bd h
  refine gc_VI (c_X4_namesBy hx2) my_X4_namesBy mv_X4_namesBy ob_38 ml_X4_127 rfl rfl ⟨Nat.le_of_ble_eq_true rfl, Nat.le_of_ble_eq_true rfl⟩ (Nat.le_of_ble_eq_true rfl) dX4_namesOf_7 (fun fx2 => ?_)
  exact gq_retI dX4_namesOf_10 rfl h
def f_X4_isThrough (m : gn_M) (p0 : Int32) : Option (Int32) := (f_X4_now m (7 : Int32)).bind (fun x1 => (f_X4_has x1 p0).bind (fun x2 => some x2))
set_option maxRecDepth 100000 in
set_option maxHeartbeats 4000000 in
theorem c_X4_isThrough {m : gn_M} {p0 : Int32} {v : Int32} (h : f_X4_isThrough m p0 = some v) : gn_Cl yX4_isThrough cX4_isThrough 2 (some .boolean) 1 21 [.ref 38, .int p0] m (some (.int v)) m := by
  rw [f_X4_isThrough] at h
  refine gn_met (lv := [some (.ref 38), some (.int p0)]) pl_X4 rfl rfl (Nat.le_of_ble_eq_true rfl) ?_
  refine gr_aload_n dX4_isThrough_0 rfl rfl ?_
  refine gr_bipush dX4_isThrough_1 gk_b_7 ?_
  obtain ⟨x1, hx1, h⟩ := gn_bd h
  refine gc_VI (c_X4_now hx1) my_X4_now mv_X4_now ob_38 ml_X4_110 rfl rfl ⟨Nat.le_of_ble_eq_true rfl, Nat.le_of_ble_eq_true rfl⟩ (Nat.le_of_ble_eq_true rfl) dX4_isThrough_3 (fun fx1 => ?_)
  refine gr_iload_n dX4_isThrough_6 rfl rfl ?_
  obtain ⟨x2, hx2, h⟩ := gn_bd h
  refine gc_SI (c_X4_has hx2) my_X4_has ms_X4_has ml_X4_123 rfl rfl ⟨Nat.le_of_ble_eq_true rfl, Nat.le_of_ble_eq_true rfl⟩ (Nat.le_of_ble_eq_true rfl) dX4_isThrough_7 (fun fx2 => ?_)
  exact gq_retI dX4_isThrough_10 fx2 h
def f_X4_isOpen (n : Nat) (m : gn_M) (p0 : Int32) : Option (Int32) := (f_X4_isThrough m p0).bind (fun x1 => (if x1 = 0 then (f_X4_now m (8 : Int32)).bind (fun x2 => (if x2 = (-9 : Int32) then some (1 : Int32) else (f_X4_namesOf n m p0).bind (fun x3 => (f_X4_now m (8 : Int32)).bind (fun x4 => (f_X4_has x3 x4).bind (fun x5 => (if x5 = 0 then some (0 : Int32) else some (1 : Int32))))))) else some (0 : Int32)))
set_option maxRecDepth 100000 in
set_option maxHeartbeats 4000000 in
theorem c_X4_isOpen {n : Nat} {m : gn_M} {p0 : Int32} {v : Int32} (h : f_X4_isOpen n m p0 = some v) : gn_Cl yX4_isOpen cX4_isOpen 2 (some .boolean) 3 68 [.ref 38, .int p0] m (some (.int v)) m := by
  rw [f_X4_isOpen] at h
  refine gn_met (lv := [some (.ref 38), some (.int p0)]) pl_X4 rfl rfl (Nat.le_of_ble_eq_true rfl) ?_
  refine gr_aload_n dX4_isOpen_0 rfl rfl ?_
  refine gr_iload_n dX4_isOpen_1 rfl rfl ?_
  obtain ⟨x1, hx1, h⟩ := gn_bd h
  refine gc_VI (c_X4_isThrough hx1) my_X4_isThrough mv_X4_isThrough ob_38 ml_X4_131 rfl rfl ⟨Nat.le_of_ble_eq_true rfl, Nat.le_of_ble_eq_true rfl⟩ (Nat.le_of_ble_eq_true rfl) dX4_isOpen_2 (fun fx1 => ?_)
  refine gr_if_ne (tgt := 40) dX4_isOpen_5 (by decide) h (fun _ h => ?_) (fun _ h => ?_)
  · refine gr_aload_n dX4_isOpen_8 rfl rfl ?_
    refine gr_bipush dX4_isOpen_9 gk_b_8 ?_
    obtain ⟨x2, hx2, h⟩ := gn_bd h
    refine gc_VI (c_X4_now hx2) my_X4_now mv_X4_now ob_38 ml_X4_110 rfl rfl ⟨Nat.le_of_ble_eq_true rfl, Nat.le_of_ble_eq_true rfl⟩ (Nat.le_of_ble_eq_true rfl) dX4_isOpen_11 (fun fx2 => ?_)
    refine gr_bipush dX4_isOpen_14 gk_b_m9 ?_
    refine gr_icmp_eq (tgt := 36) dX4_isOpen_16 (by decide) h (fun _ h => ?_) (fun _ h => ?_)
    · refine gr_iconst dX4_isOpen_36 gk_i_1 ?_
      refine gr_goto (tgt := 41) dX4_isOpen_37 (by decide) ?_
      exact gq_retI dX4_isOpen_41 rfl h
    · refine gr_aload_n dX4_isOpen_19 rfl rfl ?_
      refine gr_iload_n dX4_isOpen_20 rfl rfl ?_
      obtain ⟨x3, hx3, h⟩ := gn_bd h
      refine gc_VI (c_X4_namesOf hx3) my_X4_namesOf mv_X4_namesOf ob_38 ml_X4_134 rfl rfl ⟨Nat.le_of_ble_eq_true rfl, Nat.le_of_ble_eq_true rfl⟩ (Nat.le_of_ble_eq_true rfl) dX4_isOpen_21 (fun fx3 => ?_)
      refine gr_aload_n dX4_isOpen_24 rfl rfl ?_
      refine gr_bipush dX4_isOpen_25 gk_b_8 ?_
      obtain ⟨x4, hx4, h⟩ := gn_bd h
      refine gc_VI (c_X4_now hx4) my_X4_now mv_X4_now ob_38 ml_X4_110 rfl rfl ⟨Nat.le_of_ble_eq_true rfl, Nat.le_of_ble_eq_true rfl⟩ (Nat.le_of_ble_eq_true rfl) dX4_isOpen_27 (fun fx4 => ?_)
      obtain ⟨x5, hx5, h⟩ := gn_bd h
      refine gc_SI (c_X4_has hx5) my_X4_has ms_X4_has ml_X4_123 rfl rfl ⟨Nat.le_of_ble_eq_true rfl, Nat.le_of_ble_eq_true rfl⟩ (Nat.le_of_ble_eq_true rfl) dX4_isOpen_30 (fun fx5 => ?_)
      refine gr_if_eq (tgt := 40) dX4_isOpen_33 (by decide) h (fun _ h => ?_) (fun _ h => ?_)
      · refine gr_iconst dX4_isOpen_40 gk_i_0 ?_
        exact gq_retI dX4_isOpen_41 rfl h
      · refine gr_iconst dX4_isOpen_36 gk_i_1 ?_
        refine gr_goto (tgt := 41) dX4_isOpen_37 (by decide) ?_
        exact gq_retI dX4_isOpen_41 rfl h
  · refine gr_iconst dX4_isOpen_40 gk_i_0 ?_
    exact gq_retI dX4_isOpen_41 rfl h
def f_X4_factOf (n : Nat) (m : gn_M) (p0 : Int32) (p1 : Int32) : Option (Int32) := (if p1 = 0 then gn_rd m 45 14 p0 (fun x1 => some x1) else (if p1 = 1 then gn_rd m 46 14 p0 (fun x2 => some x2) else (if p1 = 2 then (f_X4_toldOf m p0).bind (fun x3 => some x3) else (if p1 = 3 then (f_X4_tellsOf m p0).bind (fun x4 => some x4) else (if p1 = 4 then (f_X4_namesOf n m p0).bind (fun x5 => some x5) else (if p1 = 5 then (f_X4_isThrough m p0).bind (fun x6 => (if x6 = 0 then some (0 : Int32) else some (1 : Int32))) else (f_X4_isOpen n m p0).bind (fun x7 => (if x7 = 0 then some (0 : Int32) else some (1 : Int32)))))))))
set_option maxRecDepth 100000 in
set_option maxHeartbeats 4000000 in
theorem c_X4_factOf {n : Nat} {m : gn_M} {p0 : Int32} {p1 : Int32} {v : Int32} (h : f_X4_factOf n m p0 p1 = some v) : gn_Cl yX4_factOf cX4_factOf 3 (some .int) 4 89 [.ref 38, .int p0, .int p1] m (some (.int v)) m := by
  rw [f_X4_factOf] at h
  refine gn_met (lv := [some (.ref 38), some (.int p0), some (.int p1)]) pl_X4 rfl rfl (Nat.le_of_ble_eq_true rfl) ?_
  refine gr_iload_n dX4_factOf_0 rfl rfl ?_
  refine gn_sw h (fun hs0 h => ?_) (fun hs0 h => ?_)
  · refine gr_tsIn (tgt := 40) dX4_factOf_1 hs0 (by decide) (by decide) rfl (by decide) ?_
    refine gr_aload_n dX4_factOf_40 rfl rfl ?_
    refine gr_getR q_38_11 fl_X4_33 dX4_factOf_41 ?_
    refine gr_iload_n dX4_factOf_44 rfl rfl ?_
    refine gq_iaload s_45 dX4_factOf_45 h (fun x1 h => ?_)
    exact gq_retI dX4_factOf_46 rfl h
  refine gn_sw h (fun hs1 h => ?_) (fun hs1 h => ?_)
  · refine gr_tsIn (tgt := 47) dX4_factOf_1 hs1 (by decide) (by decide) rfl (by decide) ?_
    refine gr_aload_n dX4_factOf_47 rfl rfl ?_
    refine gr_getR q_38_12 fl_X4_36 dX4_factOf_48 ?_
    refine gr_iload_n dX4_factOf_51 rfl rfl ?_
    refine gq_iaload s_46 dX4_factOf_52 h (fun x2 h => ?_)
    exact gq_retI dX4_factOf_53 rfl h
  refine gn_sw h (fun hs2 h => ?_) (fun hs2 h => ?_)
  · refine gr_tsIn (tgt := 54) dX4_factOf_1 hs2 (by decide) (by decide) rfl (by decide) ?_
    refine gr_aload_n dX4_factOf_54 rfl rfl ?_
    refine gr_iload_n dX4_factOf_55 rfl rfl ?_
    obtain ⟨x3, hx3, h⟩ := gn_bd h
    refine gc_VI (c_X4_toldOf hx3) my_X4_toldOf mv_X4_toldOf ob_38 ml_X4_113 rfl rfl ⟨Nat.le_of_ble_eq_true rfl, Nat.le_of_ble_eq_true rfl⟩ (Nat.le_of_ble_eq_true rfl) dX4_factOf_56 (fun fx3 => ?_)
    exact gq_retI dX4_factOf_59 rfl h
  refine gn_sw h (fun hs3 h => ?_) (fun hs3 h => ?_)
  · refine gr_tsIn (tgt := 60) dX4_factOf_1 hs3 (by decide) (by decide) rfl (by decide) ?_
    refine gr_aload_n dX4_factOf_60 rfl rfl ?_
    refine gr_iload_n dX4_factOf_61 rfl rfl ?_
    obtain ⟨x4, hx4, h⟩ := gn_bd h
    refine gc_VI (c_X4_tellsOf hx4) my_X4_tellsOf mv_X4_tellsOf ob_38 ml_X4_140 rfl rfl ⟨Nat.le_of_ble_eq_true rfl, Nat.le_of_ble_eq_true rfl⟩ (Nat.le_of_ble_eq_true rfl) dX4_factOf_62 (fun fx4 => ?_)
    exact gq_retI dX4_factOf_65 rfl h
  refine gn_sw h (fun hs4 h => ?_) (fun hs4 h => ?_)
  · refine gr_tsIn (tgt := 66) dX4_factOf_1 hs4 (by decide) (by decide) rfl (by decide) ?_
    refine gr_aload_n dX4_factOf_66 rfl rfl ?_
    refine gr_iload_n dX4_factOf_67 rfl rfl ?_
    obtain ⟨x5, hx5, h⟩ := gn_bd h
    refine gc_VI (c_X4_namesOf hx5) my_X4_namesOf mv_X4_namesOf ob_38 ml_X4_134 rfl rfl ⟨Nat.le_of_ble_eq_true rfl, Nat.le_of_ble_eq_true rfl⟩ (Nat.le_of_ble_eq_true rfl) dX4_factOf_68 (fun fx5 => ?_)
    exact gq_retI dX4_factOf_71 rfl h
  refine gn_sw h (fun hs5 h => ?_) (fun hs5 h => ?_)
  · refine gr_tsIn (tgt := 72) dX4_factOf_1 hs5 (by decide) (by decide) rfl (by decide) ?_
    refine gr_aload_n dX4_factOf_72 rfl rfl ?_
    refine gr_iload_n dX4_factOf_73 rfl rfl ?_
    obtain ⟨x6, hx6, h⟩ := gn_bd h
    refine gc_VI (c_X4_isThrough hx6) my_X4_isThrough mv_X4_isThrough ob_38 ml_X4_131 rfl rfl ⟨Nat.le_of_ble_eq_true rfl, Nat.le_of_ble_eq_true rfl⟩ (Nat.le_of_ble_eq_true rfl) dX4_factOf_74 (fun fx6 => ?_)
    refine gr_if_eq (tgt := 84) dX4_factOf_77 (by decide) h (fun _ h => ?_) (fun _ h => ?_)
    · refine gr_iconst dX4_factOf_84 gk_i_0 ?_
      exact gq_retI dX4_factOf_85 rfl h
    · refine gr_iconst dX4_factOf_80 gk_i_1 ?_
      refine gr_goto (tgt := 85) dX4_factOf_81 (by decide) ?_
      exact gq_retI dX4_factOf_85 rfl h
  refine gr_tsOut (tgt := 86) dX4_factOf_1 (by have := gn_out (x := p1) 6 0 (fun j hj => match j, hj with | 0, _ => hs0 | 1, _ => hs1 | 2, _ => hs2 | 3, _ => hs3 | 4, _ => hs4 | 5, _ => hs5 | j + 6, hj => absurd hj (by omega)); omega) (by decide) ?_
  refine gr_aload_n dX4_factOf_86 rfl rfl ?_
  refine gr_iload_n dX4_factOf_87 rfl rfl ?_
  obtain ⟨x7, hx7, h⟩ := gn_bd h
  refine gc_VI (c_X4_isOpen hx7) my_X4_isOpen mv_X4_isOpen ob_38 ml_X4_137 rfl rfl ⟨Nat.le_of_ble_eq_true rfl, Nat.le_of_ble_eq_true rfl⟩ (Nat.le_of_ble_eq_true rfl) dX4_factOf_88 (fun fx7 => ?_)
  refine gr_if_eq (tgt := 98) dX4_factOf_91 (by decide) h (fun _ h => ?_) (fun _ h => ?_)
  · refine gr_iconst dX4_factOf_98 gk_i_0 ?_
    exact gq_retI dX4_factOf_99 rfl h
  · refine gr_iconst dX4_factOf_94 gk_i_1 ?_
    refine gr_goto (tgt := 99) dX4_factOf_95 (by decide) ?_
    exact gq_retI dX4_factOf_99 rfl h
def f_X4_goer (n : Nat) (m : gn_M) (p0 : Int32) (p1 : Int32) : Option (Int32 × gn_M) := (f_X4_isGoer m p0).bind (fun x1 => (if x1 = 0 then some ((-1 : Int32), m) else (f_X4_in p1 (0 : Int32) (6 : Int32)).bind (fun x2 => (if x2 = 0 then some ((-1 : Int32), m) else (f_X4_factOf n m p0 p1).bind (fun x3 => (f_X4_told m x3).bind (fun x4 => some (x4.1, x4.2)))))))
set_option maxRecDepth 100000 in
set_option maxHeartbeats 4000000 in
theorem c_X4_goer {n : Nat} {m : gn_M} {p0 : Int32} {p1 : Int32} {v : Int32 × gn_M} (h : f_X4_goer n m p0 p1 = some v) : gn_Cl yX4_goer cX4_goer 3 (some .int) 5 111 [.ref 38, .int p0, .int p1] m (some (.int v.1)) v.2 := by
  rw [f_X4_goer] at h
  refine gn_met (lv := [some (.ref 38), some (.int p0), some (.int p1)]) pl_X4 rfl rfl (Nat.le_of_ble_eq_true rfl) ?_
  refine gr_aload_n dX4_goer_0 rfl rfl ?_
  refine gr_iload_n dX4_goer_1 rfl rfl ?_
  obtain ⟨x1, hx1, h⟩ := gn_bd h
  refine gc_VI (c_X4_isGoer hx1) my_X4_isGoer mv_X4_isGoer ob_38 ml_X4_143 rfl rfl ⟨Nat.le_of_ble_eq_true rfl, Nat.le_of_ble_eq_true rfl⟩ (Nat.le_of_ble_eq_true rfl) dX4_goer_2 (fun fx1 => ?_)
  refine gr_if_eq (tgt := 31) dX4_goer_5 (by decide) h (fun _ h => ?_) (fun _ h => ?_)
  · refine gr_iconst dX4_goer_31 gk_i_m1 ?_
    exact gq_retIM dX4_goer_32 rfl h
  · refine gr_iload_n dX4_goer_8 rfl rfl ?_
    refine gr_iconst dX4_goer_9 gk_i_0 ?_
    refine gr_bipush dX4_goer_10 gk_b_6 ?_
    obtain ⟨x2, hx2, h⟩ := gn_bd h
    refine gc_SI (c_X4_in hx2) my_X4_in ms_X4_in ml_X4_77 rfl rfl ⟨Nat.le_of_ble_eq_true rfl, Nat.le_of_ble_eq_true rfl⟩ (Nat.le_of_ble_eq_true rfl) dX4_goer_12 (fun fx2 => ?_)
    refine gr_if_eq (tgt := 31) dX4_goer_15 (by decide) h (fun _ h => ?_) (fun _ h => ?_)
    · refine gr_iconst dX4_goer_31 gk_i_m1 ?_
      exact gq_retIM dX4_goer_32 rfl h
    · refine gr_aload_n dX4_goer_18 rfl rfl ?_
      refine gr_aload_n dX4_goer_19 rfl rfl ?_
      refine gr_iload_n dX4_goer_20 rfl rfl ?_
      refine gr_iload_n dX4_goer_21 rfl rfl ?_
      obtain ⟨x3, hx3, h⟩ := gn_bd h
      refine gc_VI (c_X4_factOf hx3) my_X4_factOf mv_X4_factOf ob_38 ml_X4_146 rfl rfl ⟨Nat.le_of_ble_eq_true rfl, Nat.le_of_ble_eq_true rfl⟩ (Nat.le_of_ble_eq_true rfl) dX4_goer_22 (fun fx3 => ?_)
      obtain ⟨x4, hx4, h⟩ := gn_bd h
      refine gc_VI (c_X4_told hx4) my_X4_told mv_X4_told ob_38 ml_X4_89 rfl rfl ⟨Nat.le_of_ble_eq_true rfl, Nat.le_of_ble_eq_true rfl⟩ (Nat.le_of_ble_eq_true rfl) dX4_goer_25 (fun fx4 => ?_)
      refine gr_goto (tgt := 32) dX4_goer_28 (by decide) ?_
      exact gq_retIM dX4_goer_32 rfl h
def f_X4_left (m : gn_M) : Option (Int32) := (f_X4_now m (7 : Int32)).bind (fun x1 => some ((((1 : Int32) <<< ((m.1 38 10) &&& 31)) - (1 : Int32)) &&& (x1 ^^^ (-1 : Int32))))
set_option maxRecDepth 100000 in
set_option maxHeartbeats 4000000 in
theorem c_X4_left {m : gn_M} {v : Int32} (h : f_X4_left m = some v) : gn_Cl yX4_left cX4_left 1 (some .int) 1 21 [.ref 38] m (some (.int v)) m := by
  rw [f_X4_left] at h
  refine gn_met (lv := [some (.ref 38)]) pl_X4 rfl rfl (Nat.le_of_ble_eq_true rfl) ?_
  refine gr_iconst dX4_left_0 gk_i_1 ?_
  refine gr_aload_n dX4_left_1 rfl rfl ?_
  refine gr_getI q_38_10 fl_X4_104 dX4_left_2 ?_
  refine gr_ishl dX4_left_5 ?_
  refine gr_iconst dX4_left_6 gk_i_1 ?_
  refine gr_isub dX4_left_7 ?_
  refine gr_aload_n dX4_left_8 rfl rfl ?_
  refine gr_bipush dX4_left_9 gk_b_7 ?_
  obtain ⟨x1, hx1, h⟩ := gn_bd h
  refine gc_VI (c_X4_now hx1) my_X4_now mv_X4_now ob_38 ml_X4_110 rfl rfl ⟨Nat.le_of_ble_eq_true rfl, Nat.le_of_ble_eq_true rfl⟩ (Nat.le_of_ble_eq_true rfl) dX4_left_11 (fun fx1 => ?_)
  refine gr_iconst dX4_left_14 gk_i_m1 ?_
  refine gr_ixor dX4_left_15 ?_
  refine gr_iand dX4_left_16 ?_
  exact gq_retI dX4_left_17 rfl h
def L_X4_bitsOf_4 (n : Nat) (a0 : Int32) (k : Int32 → Option (Int32)) : Nat → Int32 → Int32 → Option (Int32)
  | 0, _, _ => none
  | f + 1, v1, v2 => (if v2 < (8 : Int32) then L_X4_bitsOf_4 n a0 k f (v1 + ((a0 >>> (v2 &&& 31)) &&& (1 : Int32))) (v2 + (1 : Int32)) else k v1)
set_option maxRecDepth 100000 in
set_option maxHeartbeats 4000000 in
theorem l_X4_bitsOf_4 {n : Nat} {m : gn_M} {a0 : Int32} {k : Int32 → Option (Int32)} {v : Int32} (hk : ∀ (e1 : Int32), k e1 = some v → gn_Go RX4 cX4_bitsOf 3 0 0 (some .int) none 24 [none, some (.int e1), none] [] m (some (.int v)) m) : ∀ (f : Nat) (v1 : Int32) (v2 : Int32), L_X4_bitsOf_4 n a0 k f v1 v2 = some v → gn_Go RX4 cX4_bitsOf 3 0 0 (some .int) none 4 [some (.int a0), some (.int v1), some (.int v2)] [] m (some (.int v)) m := by
  intro f
  induction f with
  | zero =>
    intro v1 v2 h
    cases h
  | succ f ih =>
    intro v1 v2 h
    rw [L_X4_bitsOf_4] at h
    refine gr_iload_n dX4_bitsOf_4 rfl rfl ?_
    refine gr_bipush dX4_bitsOf_5 gk_b_8 ?_
    refine gr_icmp_ge (tgt := 24) dX4_bitsOf_7 (by decide) h (fun _ h => ?_) (fun _ h => ?_)
    · refine gr_iload_n dX4_bitsOf_10 rfl rfl ?_
      refine gr_iload_n dX4_bitsOf_11 rfl rfl ?_
      refine gr_iload_n dX4_bitsOf_12 rfl rfl ?_
      refine gr_ishr dX4_bitsOf_13 ?_
      refine gr_iconst dX4_bitsOf_14 gk_i_1 ?_
      refine gr_iand dX4_bitsOf_15 ?_
      refine gr_iadd dX4_bitsOf_16 ?_
      refine gr_istore_n (lv' := [some (.int a0), some (.int (v1 + ((a0 >>> (v2 &&& 31)) &&& (1 : Int32)))), some (.int v2)]) dX4_bitsOf_17 rfl (by decide) rfl ?_
      refine gr_iinc (lv' := [some (.int a0), some (.int (v1 + ((a0 >>> (v2 &&& 31)) &&& (1 : Int32)))), some (.int (v2 + (1 : Int32)))]) dX4_bitsOf_18 rfl gk_i_1 (by decide) rfl ?_
      refine gr_goto (tgt := 4) dX4_bitsOf_21 (by decide) ?_
      exact ih _ _ h
    · refine gn_wkn [false, true, false] rfl ?_
      exact hk _ h
def f_X4_bitsOf (n : Nat) (p0 : Int32) : Option (Int32) := L_X4_bitsOf_4 n p0 (fun (e1 : Int32) => some e1) n (0 : Int32) (0 : Int32)
set_option maxRecDepth 100000 in
set_option maxHeartbeats 4000000 in
theorem c_X4_bitsOf {n : Nat} {m : gn_M} {p0 : Int32} {v : Int32} (h : f_X4_bitsOf n p0 = some v) : gn_Cl yX4_bitsOf cX4_bitsOf 3 (some .int) 0 0 [.int p0] m (some (.int v)) m := by
  rw [f_X4_bitsOf] at h
  refine gn_met (lv := [some (.int p0), none, none]) pl_X4 rfl rfl (Nat.le_of_ble_eq_true rfl) ?_
  refine gr_iconst dX4_bitsOf_0 gk_i_0 ?_
  refine gr_istore_n (lv' := [some (.int p0), some (.int (0 : Int32)), none]) dX4_bitsOf_1 rfl (by decide) rfl ?_
  refine gr_iconst dX4_bitsOf_2 gk_i_0 ?_
  refine gr_istore_n (lv' := [some (.int p0), some (.int (0 : Int32)), some (.int (0 : Int32))]) dX4_bitsOf_3 rfl (by decide) rfl ?_
  refine l_X4_bitsOf_4 (fun e1 h => ?_) _ _ _ h
  refine gr_iload_n dX4_bitsOf_24 rfl rfl ?_
  exact gq_retI dX4_bitsOf_25 rfl h
def L_X4_mark_87 (n : Nat) (m : gn_M) (a1 : Int32) (a2 : Int32) (k : Int32 → Option (Int32 × gn_M)) : Nat → Int32 → Int32 → Option (Int32 × gn_M)
  | 0, _, _ => none
  | f + 1, v3, v4 => (if v4 < (m.1 38 10) then (f_X4_toldOf m v4).bind (fun x9 => (f_X4_has x9 a1).bind (fun x10 => (f_X4_namesOf n m v4).bind (fun x11 => (f_X4_has x11 a1).bind (fun x12 => (if v4 = a1 then L_X4_mark_87 n m a1 a2 k f (v3 + (0 : Int32)) (v4 + (1 : Int32)) else (if (if a2 = (1 : Int32) then (if x10 = 0 then (1 : Int32) else (0 : Int32)) else (if a2 = (2 : Int32) then (if x12 = 0 then (0 : Int32) else (if x10 = 0 then (1 : Int32) else (0 : Int32))) else x12)) = 0 then L_X4_mark_87 n m a1 a2 k f (v3 + (0 : Int32)) (v4 + (1 : Int32)) else L_X4_mark_87 n m a1 a2 k f (v3 + (1 : Int32)) (v4 + (1 : Int32)))))))) else k v3)
set_option maxRecDepth 100000 in
set_option maxHeartbeats 4000000 in
theorem l_X4_mark_87 {n : Nat} {m : gn_M} {a1 : Int32} {a2 : Int32} {k : Int32 → Option (Int32 × gn_M)} {v : Int32 × gn_M} (hk : ∀ (e3 : Int32), k e3 = some v → gn_Go RX4 cX4_mark 8 3 68 (some .int) none 190 [none, none, none, some (.int e3), none, none, none, none] [] m (some (.int v.1)) v.2) : ∀ (f : Nat) (v3 : Int32) (v4 : Int32), L_X4_mark_87 n m a1 a2 k f v3 v4 = some v → gn_Go RX4 cX4_mark 8 3 68 (some .int) none 87 [some (.ref 38), some (.int a1), some (.int a2), some (.int v3), some (.int v4), none, none, none] [] m (some (.int v.1)) v.2 := by
  intro f
  induction f with
  | zero =>
    intro v3 v4 h
    cases h
  | succ f ih =>
    intro v3 v4 h
    rw [L_X4_mark_87] at h
    refine gr_iload dX4_mark_87 rfl ?_
    refine gr_aload_n dX4_mark_89 rfl rfl ?_
    refine gr_getI q_38_10 fl_X4_104 dX4_mark_90 ?_
    refine gr_icmp_ge (tgt := 190) dX4_mark_93 (by decide) h (fun _ h => ?_) (fun _ h => ?_)
    · refine gr_aload_n dX4_mark_96 rfl rfl ?_
      refine gr_iload dX4_mark_97 rfl ?_
      obtain ⟨x9, hx9, h⟩ := gn_bd h
      refine gc_VI (c_X4_toldOf hx9) my_X4_toldOf mv_X4_toldOf ob_38 ml_X4_113 rfl rfl ⟨Nat.le_of_ble_eq_true rfl, Nat.le_of_ble_eq_true rfl⟩ (Nat.le_of_ble_eq_true rfl) dX4_mark_99 (fun fx9 => ?_)
      refine gr_iload_n dX4_mark_102 rfl rfl ?_
      obtain ⟨x10, hx10, h⟩ := gn_bd h
      refine gc_SI (c_X4_has hx10) my_X4_has ms_X4_has ml_X4_123 rfl rfl ⟨Nat.le_of_ble_eq_true rfl, Nat.le_of_ble_eq_true rfl⟩ (Nat.le_of_ble_eq_true rfl) dX4_mark_103 (fun fx10 => ?_)
      refine gr_istore (lv' := [some (.ref 38), some (.int a1), some (.int a2), some (.int v3), some (.int v4), some (.int x10), none, none]) dX4_mark_106 (by decide) rfl ?_
      refine gr_aload_n dX4_mark_108 rfl rfl ?_
      refine gr_iload dX4_mark_109 rfl ?_
      obtain ⟨x11, hx11, h⟩ := gn_bd h
      refine gc_VI (c_X4_namesOf hx11) my_X4_namesOf mv_X4_namesOf ob_38 ml_X4_134 rfl rfl ⟨Nat.le_of_ble_eq_true rfl, Nat.le_of_ble_eq_true rfl⟩ (Nat.le_of_ble_eq_true rfl) dX4_mark_111 (fun fx11 => ?_)
      refine gr_iload_n dX4_mark_114 rfl rfl ?_
      obtain ⟨x12, hx12, h⟩ := gn_bd h
      refine gc_SI (c_X4_has hx12) my_X4_has ms_X4_has ml_X4_123 rfl rfl ⟨Nat.le_of_ble_eq_true rfl, Nat.le_of_ble_eq_true rfl⟩ (Nat.le_of_ble_eq_true rfl) dX4_mark_115 (fun fx12 => ?_)
      refine gr_istore (lv' := [some (.ref 38), some (.int a1), some (.int a2), some (.int v3), some (.int v4), some (.int x10), some (.int x12), none]) dX4_mark_118 (by decide) rfl ?_
      refine gr_iload_n dX4_mark_120 rfl rfl ?_
      refine gr_iconst dX4_mark_121 gk_i_1 ?_
      have hJ : ∀ y13 : Int32, y13 = (if a2 = (1 : Int32) then (if x10 = 0 then (1 : Int32) else (0 : Int32)) else (if a2 = (2 : Int32) then (if x12 = 0 then (0 : Int32) else (if x10 = 0 then (1 : Int32) else (0 : Int32))) else x12)) → gn_Go RX4 cX4_mark 8 3 68 (some .int) none 163 [some (.ref 38), some (.int a1), some (.int a2), some (.int v3), some (.int v4), none, none, none] [.int y13] m (some (.int v.1)) v.2 := by
        intro y13 hx
        subst hx
        refine gr_istore (lv' := [some (.ref 38), some (.int a1), some (.int a2), some (.int v3), some (.int v4), none, none, some (.int (if a2 = (1 : Int32) then (if x10 = 0 then (1 : Int32) else (0 : Int32)) else (if a2 = (2 : Int32) then (if x12 = 0 then (0 : Int32) else (if x10 = 0 then (1 : Int32) else (0 : Int32))) else x12)))]) dX4_mark_163 (by decide) rfl ?_
        refine gr_iload_n dX4_mark_165 rfl rfl ?_
        refine gr_iload dX4_mark_166 rfl ?_
        refine gr_iload_n dX4_mark_168 rfl rfl ?_
        refine gr_icmp_eq (tgt := 181) dX4_mark_169 (by decide) h (fun _ h => ?_) (fun _ h => ?_)
        · refine gr_iconst dX4_mark_181 gk_i_0 ?_
          refine gr_iadd dX4_mark_182 ?_
          refine gr_istore_n (lv' := [some (.ref 38), some (.int a1), some (.int a2), some (.int (v3 + (0 : Int32))), some (.int v4), none, none, some (.int (if a2 = (1 : Int32) then (if x10 = 0 then (1 : Int32) else (0 : Int32)) else (if a2 = (2 : Int32) then (if x12 = 0 then (0 : Int32) else (if x10 = 0 then (1 : Int32) else (0 : Int32))) else x12)))]) dX4_mark_183 rfl (by decide) rfl ?_
          refine gr_iinc (lv' := [some (.ref 38), some (.int a1), some (.int a2), some (.int (v3 + (0 : Int32))), some (.int (v4 + (1 : Int32))), none, none, some (.int (if a2 = (1 : Int32) then (if x10 = 0 then (1 : Int32) else (0 : Int32)) else (if a2 = (2 : Int32) then (if x12 = 0 then (0 : Int32) else (if x10 = 0 then (1 : Int32) else (0 : Int32))) else x12)))]) dX4_mark_184 rfl gk_i_1 (by decide) rfl ?_
          refine gr_goto (tgt := 87) dX4_mark_187 (by decide) ?_
          refine gn_wkn [true, true, true, true, true, false, false, false] rfl ?_
          exact ih _ _ h
        · refine gr_iload dX4_mark_172 rfl ?_
          refine gr_if_eq (tgt := 181) dX4_mark_174 (by decide) h (fun _ h => ?_) (fun _ h => ?_)
          · refine gr_iconst dX4_mark_181 gk_i_0 ?_
            refine gr_iadd dX4_mark_182 ?_
            refine gr_istore_n (lv' := [some (.ref 38), some (.int a1), some (.int a2), some (.int (v3 + (0 : Int32))), some (.int v4), none, none, some (.int (if a2 = (1 : Int32) then (if x10 = 0 then (1 : Int32) else (0 : Int32)) else (if a2 = (2 : Int32) then (if x12 = 0 then (0 : Int32) else (if x10 = 0 then (1 : Int32) else (0 : Int32))) else x12)))]) dX4_mark_183 rfl (by decide) rfl ?_
            refine gr_iinc (lv' := [some (.ref 38), some (.int a1), some (.int a2), some (.int (v3 + (0 : Int32))), some (.int (v4 + (1 : Int32))), none, none, some (.int (if a2 = (1 : Int32) then (if x10 = 0 then (1 : Int32) else (0 : Int32)) else (if a2 = (2 : Int32) then (if x12 = 0 then (0 : Int32) else (if x10 = 0 then (1 : Int32) else (0 : Int32))) else x12)))]) dX4_mark_184 rfl gk_i_1 (by decide) rfl ?_
            refine gr_goto (tgt := 87) dX4_mark_187 (by decide) ?_
            refine gn_wkn [true, true, true, true, true, false, false, false] rfl ?_
            exact ih _ _ h
          · refine gr_iconst dX4_mark_177 gk_i_1 ?_
            refine gr_goto (tgt := 182) dX4_mark_178 (by decide) ?_
            refine gr_iadd dX4_mark_182 ?_
            refine gr_istore_n (lv' := [some (.ref 38), some (.int a1), some (.int a2), some (.int (v3 + (1 : Int32))), some (.int v4), none, none, some (.int (if a2 = (1 : Int32) then (if x10 = 0 then (1 : Int32) else (0 : Int32)) else (if a2 = (2 : Int32) then (if x12 = 0 then (0 : Int32) else (if x10 = 0 then (1 : Int32) else (0 : Int32))) else x12)))]) dX4_mark_183 rfl (by decide) rfl ?_
            refine gr_iinc (lv' := [some (.ref 38), some (.int a1), some (.int a2), some (.int (v3 + (1 : Int32))), some (.int (v4 + (1 : Int32))), none, none, some (.int (if a2 = (1 : Int32) then (if x10 = 0 then (1 : Int32) else (0 : Int32)) else (if a2 = (2 : Int32) then (if x12 = 0 then (0 : Int32) else (if x10 = 0 then (1 : Int32) else (0 : Int32))) else x12)))]) dX4_mark_184 rfl gk_i_1 (by decide) rfl ?_
            refine gr_goto (tgt := 87) dX4_mark_187 (by decide) ?_
            refine gn_wkn [true, true, true, true, true, false, false, false] rfl ?_
            exact ih _ _ h
      by_cases hc0 : a2 = (1 : Int32)
      · refine gr_icmpT_ne (tgt := 138) dX4_mark_122 (by decide) hc0 ?_
        refine gr_iload dX4_mark_125 rfl ?_
        by_cases hc1 : x10 = 0
        · refine gr_ifT_ne (tgt := 134) dX4_mark_127 (by decide) hc1 ?_
          refine gr_iconst dX4_mark_130 gk_i_1 ?_
          refine gr_goto (tgt := 163) dX4_mark_131 (by decide) ?_
          refine gn_wkn [true, true, true, true, true, false, false, false] rfl ?_
          exact hJ _ (by rw [if_pos hc0, if_pos hc1])
        · refine gr_ifF_ne (tgt := 134) dX4_mark_127 (by decide) hc1 ?_
          refine gr_iconst dX4_mark_134 gk_i_0 ?_
          refine gr_goto (tgt := 163) dX4_mark_135 (by decide) ?_
          refine gn_wkn [true, true, true, true, true, false, false, false] rfl ?_
          exact hJ _ (by rw [if_pos hc0, if_neg hc1])
      · refine gr_icmpF_ne (tgt := 138) dX4_mark_122 (by decide) hc0 ?_
        refine gr_iload_n dX4_mark_138 rfl rfl ?_
        refine gr_iconst dX4_mark_139 gk_i_2 ?_
        by_cases hc1 : a2 = (2 : Int32)
        · refine gr_icmpT_ne (tgt := 161) dX4_mark_140 (by decide) hc1 ?_
          refine gr_iload dX4_mark_143 rfl ?_
          by_cases hc2 : x12 = 0
          · refine gr_ifT_eq (tgt := 157) dX4_mark_145 (by decide) hc2 ?_
            refine gr_iconst dX4_mark_157 gk_i_0 ?_
            refine gr_goto (tgt := 163) dX4_mark_158 (by decide) ?_
            refine gn_wkn [true, true, true, true, true, false, false, false] rfl ?_
            exact hJ _ (by rw [if_neg hc0, if_pos hc1, if_pos hc2])
          · refine gr_ifF_eq (tgt := 157) dX4_mark_145 (by decide) hc2 ?_
            refine gr_iload dX4_mark_148 rfl ?_
            by_cases hc3 : x10 = 0
            · refine gr_ifT_ne (tgt := 157) dX4_mark_150 (by decide) hc3 ?_
              refine gr_iconst dX4_mark_153 gk_i_1 ?_
              refine gr_goto (tgt := 163) dX4_mark_154 (by decide) ?_
              refine gn_wkn [true, true, true, true, true, false, false, false] rfl ?_
              exact hJ _ (by rw [if_neg hc0, if_pos hc1, if_neg hc2, if_pos hc3])
            · refine gr_ifF_ne (tgt := 157) dX4_mark_150 (by decide) hc3 ?_
              refine gr_iconst dX4_mark_157 gk_i_0 ?_
              refine gr_goto (tgt := 163) dX4_mark_158 (by decide) ?_
              refine gn_wkn [true, true, true, true, true, false, false, false] rfl ?_
              exact hJ _ (by rw [if_neg hc0, if_pos hc1, if_neg hc2, if_neg hc3])
        · refine gr_icmpF_ne (tgt := 161) dX4_mark_140 (by decide) hc1 ?_
          refine gr_iload dX4_mark_161 rfl ?_
          refine gn_wkn [true, true, true, true, true, false, false, false] rfl ?_
          exact hJ _ (by rw [if_neg hc0, if_neg hc1])
    · refine gn_wkn [false, false, false, true, false, false, false, false] rfl ?_
      exact hk _ h
def f_X4_mark (n : Nat) (m : gn_M) (p0 : Int32) (p1 : Int32) : Option (Int32 × gn_M) := (f_X4_isGoer m p0).bind (fun x1 => (if x1 = 0 then some ((-1 : Int32), m) else (f_X4_in p1 (1 : Int32) (5 : Int32)).bind (fun x2 => (if x2 = 0 then some ((-1 : Int32), m) else gn_rd m 45 14 p0 (fun x3 => (if x3 = p1 then (if (3 : Int32) < p1 then (if p1 = (4 : Int32) then (f_X4_tellsOf m p0).bind (fun x4 => (f_X4_bitsOf n x4).bind (fun x5 => some (x5, m))) else (f_X4_tellsOf m p0).bind (fun x6 => (f_X4_left m).bind (fun x7 => (f_X4_bitsOf n (x6 &&& x7)).bind (fun x8 => some (x8, m))))) else L_X4_mark_87 n m p0 p1 (fun (e14 : Int32) => some (e14, m)) n (0 : Int32) (0 : Int32)) else (if p1 = (4 : Int32) then gn_rd m 45 14 p0 (fun x15 => (if x15 = (5 : Int32) then (if (3 : Int32) < p1 then (if p1 = (4 : Int32) then (f_X4_tellsOf m p0).bind (fun x16 => (f_X4_bitsOf n x16).bind (fun x17 => some (x17, m))) else (f_X4_tellsOf m p0).bind (fun x18 => (f_X4_left m).bind (fun x19 => (f_X4_bitsOf n (x18 &&& x19)).bind (fun x20 => some (x20, m))))) else L_X4_mark_87 n m p0 p1 (fun (e21 : Int32) => some (e21, m)) n (0 : Int32) (0 : Int32)) else (f_X4_find m (3 : Int32)).bind (fun x22 => some (x22.1, x22.2)))) else (f_X4_find m (3 : Int32)).bind (fun x23 => some (x23.1, x23.2)))))))))
set_option maxRecDepth 100000 in
set_option maxHeartbeats 4000000 in
theorem c_X4_mark {n : Nat} {m : gn_M} {p0 : Int32} {p1 : Int32} {v : Int32 × gn_M} (h : f_X4_mark n m p0 p1 = some v) : gn_Cl yX4_mark cX4_mark 8 (some .int) 3 68 [.ref 38, .int p0, .int p1] m (some (.int v.1)) v.2 := by
  rw [f_X4_mark] at h
  refine gn_met (lv := [some (.ref 38), some (.int p0), some (.int p1), none, none, none, none, none]) pl_X4 rfl rfl (Nat.le_of_ble_eq_true rfl) ?_
  refine gr_aload_n dX4_mark_0 rfl rfl ?_
  refine gr_iload_n dX4_mark_1 rfl rfl ?_
  obtain ⟨x1, hx1, h⟩ := gn_bd h
  refine gc_VI (c_X4_isGoer hx1) my_X4_isGoer mv_X4_isGoer ob_38 ml_X4_143 rfl rfl ⟨Nat.le_of_ble_eq_true rfl, Nat.le_of_ble_eq_true rfl⟩ (Nat.le_of_ble_eq_true rfl) dX4_mark_2 (fun fx1 => ?_)
  refine gr_if_eq (tgt := 17) dX4_mark_5 (by decide) h (fun _ h => ?_) (fun _ h => ?_)
  · refine gr_iconst dX4_mark_17 gk_i_m1 ?_
    exact gq_retIM dX4_mark_18 rfl h
  · refine gr_iload_n dX4_mark_8 rfl rfl ?_
    refine gr_iconst dX4_mark_9 gk_i_1 ?_
    refine gr_iconst dX4_mark_10 gk_i_5 ?_
    obtain ⟨x2, hx2, h⟩ := gn_bd h
    refine gc_SI (c_X4_in hx2) my_X4_in ms_X4_in ml_X4_77 rfl rfl ⟨Nat.le_of_ble_eq_true rfl, Nat.le_of_ble_eq_true rfl⟩ (Nat.le_of_ble_eq_true rfl) dX4_mark_11 (fun fx2 => ?_)
    refine gr_if_ne (tgt := 19) dX4_mark_14 (by decide) h (fun _ h => ?_) (fun _ h => ?_)
    · refine gr_iconst dX4_mark_17 gk_i_m1 ?_
      exact gq_retIM dX4_mark_18 rfl h
    · refine gr_aload_n dX4_mark_19 rfl rfl ?_
      refine gr_getR q_38_11 fl_X4_33 dX4_mark_20 ?_
      refine gr_iload_n dX4_mark_23 rfl rfl ?_
      refine gq_iaload s_45 dX4_mark_24 h (fun x3 h => ?_)
      refine gr_iload_n dX4_mark_25 rfl rfl ?_
      refine gr_icmp_eq (tgt := 50) dX4_mark_26 (by decide) h (fun _ h => ?_) (fun _ h => ?_)
      · refine gr_iload_n dX4_mark_50 rfl rfl ?_
        refine gr_iconst dX4_mark_51 gk_i_3 ?_
        refine gr_icmp_le (tgt := 82) dX4_mark_52 (by decide) h (fun _ h => ?_) (fun _ h => ?_)
        · refine gr_iload_n dX4_mark_55 rfl rfl ?_
          refine gr_iconst dX4_mark_56 gk_i_4 ?_
          refine gr_icmp_ne (tgt := 68) dX4_mark_57 (by decide) h (fun _ h => ?_) (fun _ h => ?_)
          · refine gr_aload_n dX4_mark_60 rfl rfl ?_
            refine gr_iload_n dX4_mark_61 rfl rfl ?_
            obtain ⟨x4, hx4, h⟩ := gn_bd h
            refine gc_VI (c_X4_tellsOf hx4) my_X4_tellsOf mv_X4_tellsOf ob_38 ml_X4_140 rfl rfl ⟨Nat.le_of_ble_eq_true rfl, Nat.le_of_ble_eq_true rfl⟩ (Nat.le_of_ble_eq_true rfl) dX4_mark_62 (fun fx4 => ?_)
            refine gr_goto (tgt := 78) dX4_mark_65 (by decide) ?_
            obtain ⟨x5, hx5, h⟩ := gn_bd h
            refine gc_SI (c_X4_bitsOf hx5) my_X4_bitsOf ms_X4_bitsOf ml_X4_153 rfl rfl ⟨Nat.le_of_ble_eq_true rfl, Nat.le_of_ble_eq_true rfl⟩ (Nat.le_of_ble_eq_true rfl) dX4_mark_78 (fun fx5 => ?_)
            exact gq_retIM dX4_mark_81 rfl h
          · refine gr_aload_n dX4_mark_68 rfl rfl ?_
            refine gr_iload_n dX4_mark_69 rfl rfl ?_
            obtain ⟨x6, hx6, h⟩ := gn_bd h
            refine gc_VI (c_X4_tellsOf hx6) my_X4_tellsOf mv_X4_tellsOf ob_38 ml_X4_140 rfl rfl ⟨Nat.le_of_ble_eq_true rfl, Nat.le_of_ble_eq_true rfl⟩ (Nat.le_of_ble_eq_true rfl) dX4_mark_70 (fun fx6 => ?_)
            refine gr_aload_n dX4_mark_73 rfl rfl ?_
            obtain ⟨x7, hx7, h⟩ := gn_bd h
            refine gc_VI (c_X4_left hx7) my_X4_left mv_X4_left ob_38 ml_X4_149 rfl rfl ⟨Nat.le_of_ble_eq_true rfl, Nat.le_of_ble_eq_true rfl⟩ (Nat.le_of_ble_eq_true rfl) dX4_mark_74 (fun fx7 => ?_)
            refine gr_iand dX4_mark_77 ?_
            obtain ⟨x8, hx8, h⟩ := gn_bd h
            refine gc_SI (c_X4_bitsOf hx8) my_X4_bitsOf ms_X4_bitsOf ml_X4_153 rfl rfl ⟨Nat.le_of_ble_eq_true rfl, Nat.le_of_ble_eq_true rfl⟩ (Nat.le_of_ble_eq_true rfl) dX4_mark_78 (fun fx8 => ?_)
            exact gq_retIM dX4_mark_81 rfl h
        · refine gr_iconst dX4_mark_82 gk_i_0 ?_
          refine gr_istore_n (lv' := [some (.ref 38), some (.int p0), some (.int p1), some (.int (0 : Int32)), none, none, none, none]) dX4_mark_83 rfl (by decide) rfl ?_
          refine gr_iconst dX4_mark_84 gk_i_0 ?_
          refine gr_istore (lv' := [some (.ref 38), some (.int p0), some (.int p1), some (.int (0 : Int32)), some (.int (0 : Int32)), none, none, none]) dX4_mark_85 (by decide) rfl ?_
          refine l_X4_mark_87 (fun e14 h => ?_) _ _ _ h
          refine gr_iload_n dX4_mark_190 rfl rfl ?_
          exact gq_retIM dX4_mark_191 rfl h
      · refine gr_iload_n dX4_mark_29 rfl rfl ?_
        refine gr_iconst dX4_mark_30 gk_i_4 ?_
        refine gr_icmp_ne (tgt := 44) dX4_mark_31 (by decide) h (fun _ h => ?_) (fun _ h => ?_)
        · refine gr_aload_n dX4_mark_34 rfl rfl ?_
          refine gr_getR q_38_11 fl_X4_33 dX4_mark_35 ?_
          refine gr_iload_n dX4_mark_38 rfl rfl ?_
          refine gq_iaload s_45 dX4_mark_39 h (fun x15 h => ?_)
          refine gr_iconst dX4_mark_40 gk_i_5 ?_
          refine gr_icmp_eq (tgt := 50) dX4_mark_41 (by decide) h (fun _ h => ?_) (fun _ h => ?_)
          · refine gr_iload_n dX4_mark_50 rfl rfl ?_
            refine gr_iconst dX4_mark_51 gk_i_3 ?_
            refine gr_icmp_le (tgt := 82) dX4_mark_52 (by decide) h (fun _ h => ?_) (fun _ h => ?_)
            · refine gr_iload_n dX4_mark_55 rfl rfl ?_
              refine gr_iconst dX4_mark_56 gk_i_4 ?_
              refine gr_icmp_ne (tgt := 68) dX4_mark_57 (by decide) h (fun _ h => ?_) (fun _ h => ?_)
              · refine gr_aload_n dX4_mark_60 rfl rfl ?_
                refine gr_iload_n dX4_mark_61 rfl rfl ?_
                obtain ⟨x16, hx16, h⟩ := gn_bd h
                refine gc_VI (c_X4_tellsOf hx16) my_X4_tellsOf mv_X4_tellsOf ob_38 ml_X4_140 rfl rfl ⟨Nat.le_of_ble_eq_true rfl, Nat.le_of_ble_eq_true rfl⟩ (Nat.le_of_ble_eq_true rfl) dX4_mark_62 (fun fx16 => ?_)
                refine gr_goto (tgt := 78) dX4_mark_65 (by decide) ?_
                obtain ⟨x17, hx17, h⟩ := gn_bd h
                refine gc_SI (c_X4_bitsOf hx17) my_X4_bitsOf ms_X4_bitsOf ml_X4_153 rfl rfl ⟨Nat.le_of_ble_eq_true rfl, Nat.le_of_ble_eq_true rfl⟩ (Nat.le_of_ble_eq_true rfl) dX4_mark_78 (fun fx17 => ?_)
                exact gq_retIM dX4_mark_81 rfl h
              · refine gr_aload_n dX4_mark_68 rfl rfl ?_
                refine gr_iload_n dX4_mark_69 rfl rfl ?_
                obtain ⟨x18, hx18, h⟩ := gn_bd h
                refine gc_VI (c_X4_tellsOf hx18) my_X4_tellsOf mv_X4_tellsOf ob_38 ml_X4_140 rfl rfl ⟨Nat.le_of_ble_eq_true rfl, Nat.le_of_ble_eq_true rfl⟩ (Nat.le_of_ble_eq_true rfl) dX4_mark_70 (fun fx18 => ?_)
                refine gr_aload_n dX4_mark_73 rfl rfl ?_
                obtain ⟨x19, hx19, h⟩ := gn_bd h
                refine gc_VI (c_X4_left hx19) my_X4_left mv_X4_left ob_38 ml_X4_149 rfl rfl ⟨Nat.le_of_ble_eq_true rfl, Nat.le_of_ble_eq_true rfl⟩ (Nat.le_of_ble_eq_true rfl) dX4_mark_74 (fun fx19 => ?_)
                refine gr_iand dX4_mark_77 ?_
                obtain ⟨x20, hx20, h⟩ := gn_bd h
                refine gc_SI (c_X4_bitsOf hx20) my_X4_bitsOf ms_X4_bitsOf ml_X4_153 rfl rfl ⟨Nat.le_of_ble_eq_true rfl, Nat.le_of_ble_eq_true rfl⟩ (Nat.le_of_ble_eq_true rfl) dX4_mark_78 (fun fx20 => ?_)
                exact gq_retIM dX4_mark_81 rfl h
            · refine gr_iconst dX4_mark_82 gk_i_0 ?_
              refine gr_istore_n (lv' := [some (.ref 38), some (.int p0), some (.int p1), some (.int (0 : Int32)), none, none, none, none]) dX4_mark_83 rfl (by decide) rfl ?_
              refine gr_iconst dX4_mark_84 gk_i_0 ?_
              refine gr_istore (lv' := [some (.ref 38), some (.int p0), some (.int p1), some (.int (0 : Int32)), some (.int (0 : Int32)), none, none, none]) dX4_mark_85 (by decide) rfl ?_
              refine l_X4_mark_87 (fun e21 h => ?_) _ _ _ h
              refine gr_iload_n dX4_mark_190 rfl rfl ?_
              exact gq_retIM dX4_mark_191 rfl h
          · refine gr_aload_n dX4_mark_44 rfl rfl ?_
            refine gr_iconst dX4_mark_45 gk_i_3 ?_
            obtain ⟨x22, hx22, h⟩ := gn_bd h
            refine gc_VI (c_X4_find hx22) my_X4_find mv_X4_find ob_38 ml_X4_85 rfl rfl ⟨Nat.le_of_ble_eq_true rfl, Nat.le_of_ble_eq_true rfl⟩ (Nat.le_of_ble_eq_true rfl) dX4_mark_46 (fun fx22 => ?_)
            exact gq_retIM dX4_mark_49 rfl h
        · refine gr_aload_n dX4_mark_44 rfl rfl ?_
          refine gr_iconst dX4_mark_45 gk_i_3 ?_
          obtain ⟨x23, hx23, h⟩ := gn_bd h
          refine gc_VI (c_X4_find hx23) my_X4_find mv_X4_find ob_38 ml_X4_85 rfl rfl ⟨Nat.le_of_ble_eq_true rfl, Nat.le_of_ble_eq_true rfl⟩ (Nat.le_of_ble_eq_true rfl) dX4_mark_46 (fun fx23 => ?_)
          exact gq_retIM dX4_mark_49 rfl h
