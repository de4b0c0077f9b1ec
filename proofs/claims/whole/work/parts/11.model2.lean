def L_X4_canAll_2 (n : Nat) (k : gn_M → Option (Int32 × gn_M)) : Nat → Int32 → gn_M → Option (Int32 × gn_M)
  | 0, _, _ => none
  | f + 1, v1, m => (if v1 < (m.1 38 10) then gn_rd m 54 7 v1 (fun x1 => (f_X4_namesBy n m v1 x1).bind (fun x2 => gn_wr m 51 7 v1 x2 (fun m3 => L_X4_canAll_2 n k f (v1 + (1 : Int32)) m3))) else k m)
set_option maxRecDepth 100000 in
set_option maxHeartbeats 4000000 in
theorem l_X4_canAll_2 {n : Nat} {k : gn_M → Option (Int32 × gn_M)} {v : Int32 × gn_M} (hk : ∀ (m1 : gn_M), k m1 = some v → gn_Go RX4 cX4_canAll 2 3 68 (some .boolean) none 33 [some (.ref 38), none] [] m1 (some (.int v.1)) v.2) : ∀ (f : Nat) (v1 : Int32) (m : gn_M), L_X4_canAll_2 n k f v1 m = some v → gn_Go RX4 cX4_canAll 2 3 68 (some .boolean) none 2 [some (.ref 38), some (.int v1)] [] m (some (.int v.1)) v.2 := by
  intro f
  induction f with
  | zero =>
    intro v1 m h
    cases h
  | succ f ih =>
    intro v1 m h
    rw [L_X4_canAll_2] at h
    refine gr_iload_n dX4_canAll_2 rfl rfl ?_
    refine gr_aload_n dX4_canAll_3 rfl rfl ?_
    refine gr_getI q_38_10 fl_X4_104 dX4_canAll_4 ?_
    refine gr_icmp_ge (tgt := 33) dX4_canAll_7 (by decide) h (fun _ h => ?_) (fun _ h => ?_)
    · refine gr_aload_n dX4_canAll_10 rfl rfl ?_
      refine gr_getR q_38_19 fl_X4_51 dX4_canAll_11 ?_
      refine gr_iload_n dX4_canAll_14 rfl rfl ?_
      refine gr_aload_n dX4_canAll_15 rfl rfl ?_
      refine gr_iload_n dX4_canAll_16 rfl rfl ?_
      refine gr_aload_n dX4_canAll_17 rfl rfl ?_
      refine gr_getR q_38_22 fl_X4_60 dX4_canAll_18 ?_
      refine gr_iload_n dX4_canAll_21 rfl rfl ?_
      refine gq_iaload s_54 dX4_canAll_22 h (fun x1 h => ?_)
      obtain ⟨x2, hx2, h⟩ := gn_bd h
      refine gc_VI (c_X4_namesBy hx2) my_X4_namesBy mv_X4_namesBy ob_38 ml_X4_127 rfl rfl ⟨Nat.le_of_ble_eq_true rfl, Nat.le_of_ble_eq_true rfl⟩ (Nat.le_of_ble_eq_true rfl) dX4_canAll_23 (fun fx2 => ?_)
      refine gq_iastore s_51 dX4_canAll_26 h (fun m3 h => ?_)
      refine gr_iinc (lv' := [some (.ref 38), some (.int (v1 + (1 : Int32)))]) dX4_canAll_27 rfl gk_i_1 (by decide) rfl ?_
      refine gr_goto (tgt := 2) dX4_canAll_30 (by decide) ?_
      exact ih _ _ h
    · refine gn_wkn [true, false] rfl ?_
      exact hk _ h
def f_X4_canAll (n : Nat) (m : gn_M) : Option (Int32 × gn_M) := L_X4_canAll_2 n (fun (m4 : gn_M) => (f_X4_tellWays n m4).bind (fun x5 => (f_X4_left x5).bind (fun x6 => (f_X4_ordersOf n x5 x6).bind (fun x7 => (if 0 < x7 then some ((1 : Int32), x5) else some ((0 : Int32), x5)))))) n (0 : Int32) m
set_option maxRecDepth 100000 in
set_option maxHeartbeats 4000000 in
theorem c_X4_canAll {n : Nat} {m : gn_M} {v : Int32 × gn_M} (h : f_X4_canAll n m = some v) : gn_Cl yX4_canAll cX4_canAll 2 (some .boolean) 3 68 [.ref 38] m (some (.int v.1)) v.2 := by
  rw [f_X4_canAll] at h
  refine gn_met (lv := [some (.ref 38), none]) pl_X4 rfl rfl (Nat.le_of_ble_eq_true rfl) ?_
  refine gr_iconst dX4_canAll_0 gk_i_0 ?_
  refine gr_istore_n (lv' := [some (.ref 38), some (.int (0 : Int32))]) dX4_canAll_1 rfl (by decide) rfl ?_
  refine l_X4_canAll_2 (fun m4 h => ?_) _ _ _ h
  refine gr_aload_n dX4_canAll_33 rfl rfl ?_
  obtain ⟨x5, hx5, h⟩ := gn_bd h
  refine gc_V0 (c_X4_tellWays hx5) my_X4_tellWays mv_X4_tellWays ob_38 ml_X4_190 rfl rfl ⟨Nat.le_of_ble_eq_true rfl, Nat.le_of_ble_eq_true rfl⟩ (Nat.le_of_ble_eq_true rfl) dX4_canAll_34 (fun fx5 => ?_)
  refine gr_aload_n dX4_canAll_37 rfl rfl ?_
  refine gr_aload_n dX4_canAll_38 rfl rfl ?_
  obtain ⟨x6, hx6, h⟩ := gn_bd h
  refine gc_VI (c_X4_left hx6) my_X4_left mv_X4_left ob_38 ml_X4_149 rfl rfl ⟨Nat.le_of_ble_eq_true rfl, Nat.le_of_ble_eq_true rfl⟩ (Nat.le_of_ble_eq_true rfl) dX4_canAll_39 (fun fx6 => ?_)
  obtain ⟨x7, hx7, h⟩ := gn_bd h
  refine gc_VI (c_X4_ordersOf hx7) my_X4_ordersOf mv_X4_ordersOf ob_38 ml_X4_175 rfl rfl ⟨Nat.le_of_ble_eq_true rfl, Nat.le_of_ble_eq_true rfl⟩ (Nat.le_of_ble_eq_true rfl) dX4_canAll_42 (fun fx7 => ?_)
  refine gr_if_le (tgt := 52) dX4_canAll_45 (by decide) h (fun _ h => ?_) (fun _ h => ?_)
  · refine gr_iconst dX4_canAll_48 gk_i_1 ?_
    refine gr_goto (tgt := 53) dX4_canAll_49 (by decide) ?_
    exact gq_retIM dX4_canAll_53 rfl h
  · refine gr_iconst dX4_canAll_52 gk_i_0 ?_
    exact gq_retIM dX4_canAll_53 rfl h
def f_X4_areTwo (m : gn_M) (p0 : Int32) : Option (Int32) := (if (p0 / (10 : Int32)) < (p0 - p0 / (10 : Int32) * (10 : Int32)) then (if (p0 - p0 / (10 : Int32) * (10 : Int32)) < (m.1 38 10) then (f_X4_left m).bind (fun x1 => (f_X4_has x1 (p0 / (10 : Int32))).bind (fun x2 => (if x2 = 0 then some (0 : Int32) else (f_X4_left m).bind (fun x3 => (f_X4_has x3 (p0 - p0 / (10 : Int32) * (10 : Int32))).bind (fun x4 => (if x4 = 0 then some (0 : Int32) else some (1 : Int32))))))) else some (0 : Int32)) else some (0 : Int32))
set_option maxRecDepth 100000 in
set_option maxHeartbeats 4000000 in
theorem c_X4_areTwo {m : gn_M} {p0 : Int32} {v : Int32} (h : f_X4_areTwo m p0 = some v) : gn_Cl yX4_areTwo cX4_areTwo 4 (some .boolean) 2 41 [.ref 38, .int p0] m (some (.int v)) m := by
  rw [f_X4_areTwo] at h
  refine gn_met (lv := [some (.ref 38), some (.int p0), none, none]) pl_X4 rfl rfl (Nat.le_of_ble_eq_true rfl) ?_
  refine gr_iload_n dX4_areTwo_0 rfl rfl ?_
  refine gr_bipush dX4_areTwo_1 gk_b_10 ?_
  refine gr_idiv dX4_areTwo_3 (by decide) ?_
  refine gr_istore_n (lv' := [some (.ref 38), some (.int p0), some (.int (p0 / (10 : Int32))), none]) dX4_areTwo_4 rfl (by decide) rfl ?_
  refine gr_iload_n dX4_areTwo_5 rfl rfl ?_
  refine gr_bipush dX4_areTwo_6 gk_b_10 ?_
  refine gr_irem dX4_areTwo_8 (by decide) ?_
  refine gr_istore_n (lv' := [some (.ref 38), some (.int p0), some (.int (p0 / (10 : Int32))), some (.int (p0 - p0 / (10 : Int32) * (10 : Int32)))]) dX4_areTwo_9 rfl (by decide) rfl ?_
  refine gr_iload_n dX4_areTwo_10 rfl rfl ?_
  refine gr_iload_n dX4_areTwo_11 rfl rfl ?_
  refine gr_icmp_ge (tgt := 49) dX4_areTwo_12 (by decide) h (fun _ h => ?_) (fun _ h => ?_)
  · refine gr_iload_n dX4_areTwo_15 rfl rfl ?_
    refine gr_aload_n dX4_areTwo_16 rfl rfl ?_
    refine gr_getI q_38_10 fl_X4_104 dX4_areTwo_17 ?_
    refine gr_icmp_ge (tgt := 49) dX4_areTwo_20 (by decide) h (fun _ h => ?_) (fun _ h => ?_)
    · refine gr_aload_n dX4_areTwo_23 rfl rfl ?_
      obtain ⟨x1, hx1, h⟩ := gn_bd h
      refine gc_VI (c_X4_left hx1) my_X4_left mv_X4_left ob_38 ml_X4_149 rfl rfl ⟨Nat.le_of_ble_eq_true rfl, Nat.le_of_ble_eq_true rfl⟩ (Nat.le_of_ble_eq_true rfl) dX4_areTwo_24 (fun fx1 => ?_)
      refine gr_iload_n dX4_areTwo_27 rfl rfl ?_
      obtain ⟨x2, hx2, h⟩ := gn_bd h
      refine gc_SI (c_X4_has hx2) my_X4_has ms_X4_has ml_X4_123 rfl rfl ⟨Nat.le_of_ble_eq_true rfl, Nat.le_of_ble_eq_true rfl⟩ (Nat.le_of_ble_eq_true rfl) dX4_areTwo_28 (fun fx2 => ?_)
      refine gr_if_eq (tgt := 49) dX4_areTwo_31 (by decide) h (fun _ h => ?_) (fun _ h => ?_)
      · refine gr_iconst dX4_areTwo_49 gk_i_0 ?_
        exact gq_retI dX4_areTwo_50 rfl h
      · refine gr_aload_n dX4_areTwo_34 rfl rfl ?_
        obtain ⟨x3, hx3, h⟩ := gn_bd h
        refine gc_VI (c_X4_left hx3) my_X4_left mv_X4_left ob_38 ml_X4_149 rfl rfl ⟨Nat.le_of_ble_eq_true rfl, Nat.le_of_ble_eq_true rfl⟩ (Nat.le_of_ble_eq_true rfl) dX4_areTwo_35 (fun fx3 => ?_)
        refine gr_iload_n dX4_areTwo_38 rfl rfl ?_
        obtain ⟨x4, hx4, h⟩ := gn_bd h
        refine gc_SI (c_X4_has hx4) my_X4_has ms_X4_has ml_X4_123 rfl rfl ⟨Nat.le_of_ble_eq_true rfl, Nat.le_of_ble_eq_true rfl⟩ (Nat.le_of_ble_eq_true rfl) dX4_areTwo_39 (fun fx4 => ?_)
        refine gr_if_eq (tgt := 49) dX4_areTwo_42 (by decide) h (fun _ h => ?_) (fun _ h => ?_)
        · refine gr_iconst dX4_areTwo_49 gk_i_0 ?_
          exact gq_retI dX4_areTwo_50 rfl h
        · refine gr_iconst dX4_areTwo_45 gk_i_1 ?_
          refine gr_goto (tgt := 50) dX4_areTwo_46 (by decide) ?_
          exact gq_retI dX4_areTwo_50 rfl h
    · refine gr_iconst dX4_areTwo_49 gk_i_0 ?_
      exact gq_retI dX4_areTwo_50 rfl h
  · refine gr_iconst dX4_areTwo_49 gk_i_0 ?_
    exact gq_retI dX4_areTwo_50 rfl h
def f_X4_meetAside (m : gn_M) (p0 : Int32) (p1 : Int32) : Option (gn_M) := gn_rd m 45 14 p0 (fun x1 => gn_rd m 54 7 p0 (fun x2 => (f_X4_tellsBy p0 x1 x2).bind (fun x3 => gn_rd m 45 14 p1 (fun x4 => gn_rd m 54 7 p1 (fun x5 => (f_X4_tellsBy p1 x4 x5).bind (fun x6 => gn_rd m 54 7 p0 (fun x7 => gn_wr m 54 7 p0 (x7 ||| (x6 &&& (((1 : Int32) <<< (p0 &&& 31)) ^^^ (-1 : Int32)))) (fun m8 => gn_rd m8 54 7 p1 (fun x9 => gn_wr m8 54 7 p1 (x9 ||| (x3 &&& (((1 : Int32) <<< (p1 &&& 31)) ^^^ (-1 : Int32)))) (fun m10 => some m10))))))))))
set_option maxRecDepth 100000 in
set_option maxHeartbeats 4000000 in
theorem c_X4_meetAside {m : gn_M} {p0 : Int32} {p1 : Int32} {v : gn_M} (h : f_X4_meetAside m p0 p1 = some v) : gn_Cl yX4_meetAside cX4_meetAside 5 none 1 23 [.ref 38, .int p0, .int p1] m none v := by
  rw [f_X4_meetAside] at h
  refine gn_met (lv := [some (.ref 38), some (.int p0), some (.int p1), none, none]) pl_X4 rfl rfl (Nat.le_of_ble_eq_true rfl) ?_
  refine gr_iload_n dX4_meetAside_0 rfl rfl ?_
  refine gr_aload_n dX4_meetAside_1 rfl rfl ?_
  refine gr_getR q_38_11 fl_X4_33 dX4_meetAside_2 ?_
  refine gr_iload_n dX4_meetAside_5 rfl rfl ?_
  refine gq_iaload s_45 dX4_meetAside_6 h (fun x1 h => ?_)
  refine gr_aload_n dX4_meetAside_7 rfl rfl ?_
  refine gr_getR q_38_22 fl_X4_60 dX4_meetAside_8 ?_
  refine gr_iload_n dX4_meetAside_11 rfl rfl ?_
  refine gq_iaload s_54 dX4_meetAside_12 h (fun x2 h => ?_)
  obtain ⟨x3, hx3, h⟩ := gn_bd h
  refine gc_SI (c_X4_tellsBy hx3) my_X4_tellsBy ms_X4_tellsBy ml_X4_116 rfl rfl ⟨Nat.le_of_ble_eq_true rfl, Nat.le_of_ble_eq_true rfl⟩ (Nat.le_of_ble_eq_true rfl) dX4_meetAside_13 (fun fx3 => ?_)
  refine gr_istore_n (lv' := [some (.ref 38), some (.int p0), some (.int p1), some (.int x3), none]) dX4_meetAside_16 rfl (by decide) rfl ?_
  refine gr_iload_n dX4_meetAside_17 rfl rfl ?_
  refine gr_aload_n dX4_meetAside_18 rfl rfl ?_
  refine gr_getR q_38_11 fl_X4_33 dX4_meetAside_19 ?_
  refine gr_iload_n dX4_meetAside_22 rfl rfl ?_
  refine gq_iaload s_45 dX4_meetAside_23 h (fun x4 h => ?_)
  refine gr_aload_n dX4_meetAside_24 rfl rfl ?_
  refine gr_getR q_38_22 fl_X4_60 dX4_meetAside_25 ?_
  refine gr_iload_n dX4_meetAside_28 rfl rfl ?_
  refine gq_iaload s_54 dX4_meetAside_29 h (fun x5 h => ?_)
  obtain ⟨x6, hx6, h⟩ := gn_bd h
  refine gc_SI (c_X4_tellsBy hx6) my_X4_tellsBy ms_X4_tellsBy ml_X4_116 rfl rfl ⟨Nat.le_of_ble_eq_true rfl, Nat.le_of_ble_eq_true rfl⟩ (Nat.le_of_ble_eq_true rfl) dX4_meetAside_30 (fun fx6 => ?_)
  refine gr_istore (lv' := [some (.ref 38), some (.int p0), some (.int p1), some (.int x3), some (.int x6)]) dX4_meetAside_33 (by decide) rfl ?_
  refine gr_aload_n dX4_meetAside_35 rfl rfl ?_
  refine gr_getR q_38_22 fl_X4_60 dX4_meetAside_36 ?_
  refine gr_iload_n dX4_meetAside_39 rfl rfl ?_
  refine gr_dup2 dX4_meetAside_40 rfl rfl ?_
  refine gq_iaload s_54 dX4_meetAside_41 h (fun x7 h => ?_)
  refine gr_iload dX4_meetAside_42 rfl ?_
  refine gr_iconst dX4_meetAside_44 gk_i_1 ?_
  refine gr_iload_n dX4_meetAside_45 rfl rfl ?_
  refine gr_ishl dX4_meetAside_46 ?_
  refine gr_iconst dX4_meetAside_47 gk_i_m1 ?_
  refine gr_ixor dX4_meetAside_48 ?_
  refine gr_iand dX4_meetAside_49 ?_
  refine gr_ior dX4_meetAside_50 ?_
  refine gq_iastore s_54 dX4_meetAside_51 h (fun m8 h => ?_)
  refine gr_aload_n dX4_meetAside_52 rfl rfl ?_
  refine gr_getR q_38_22 fl_X4_60 dX4_meetAside_53 ?_
  refine gr_iload_n dX4_meetAside_56 rfl rfl ?_
  refine gr_dup2 dX4_meetAside_57 rfl rfl ?_
  refine gq_iaload s_54 dX4_meetAside_58 h (fun x9 h => ?_)
  refine gr_iload_n dX4_meetAside_59 rfl rfl ?_
  refine gr_iconst dX4_meetAside_60 gk_i_1 ?_
  refine gr_iload_n dX4_meetAside_61 rfl rfl ?_
  refine gr_ishl dX4_meetAside_62 ?_
  refine gr_iconst dX4_meetAside_63 gk_i_m1 ?_
  refine gr_ixor dX4_meetAside_64 ?_
  refine gr_iand dX4_meetAside_65 ?_
  refine gr_ior dX4_meetAside_66 ?_
  refine gq_iastore s_54 dX4_meetAside_67 h (fun m10 h => ?_)
  exact gq_retVM dX4_meetAside_68 trivial h
def L_X4_meetings_31 (n : Nat) (k : gn_M → Option (Int32 × gn_M)) : Nat → Int32 → gn_M → Option (Int32 × gn_M)
  | 0, _, _ => none
  | f + 1, v1, m => (if (56 : Int32) < v1 then k m else (f_X4_areTwo m v1).bind (fun x3 => (if x3 = 0 then L_X4_meetings_31 n k f (v1 + (1 : Int32)) m else (f_X4_takeTold n m).bind (fun x4 => (f_X4_meetAside x4 (v1 / (10 : Int32)) (v1 - v1 / (10 : Int32) * (10 : Int32))).bind (fun x5 => (f_X4_canAll n x5).bind (fun x6 => (if x6.1 = 0 then L_X4_meetings_31 n k f (v1 + (1 : Int32)) x6.2 else (f_X4_told x6.2 v1).bind (fun x7 => some ((1 : Int32), x7.2)))))))))
set_option maxRecDepth 100000 in
set_option maxHeartbeats 4000000 in
theorem l_X4_meetings_31 {n : Nat} {k : gn_M → Option (Int32 × gn_M)} {v : Int32 × gn_M} (hk : ∀ (m1 : gn_M), k m1 = some v → gn_Go RX4 cX4_meetings 3 4 89 (some .int) none 82 [some (.ref 38), none, none] [] m1 (some (.int v.1)) v.2) : ∀ (f : Nat) (v1 : Int32) (m : gn_M), L_X4_meetings_31 n k f v1 m = some v → gn_Go RX4 cX4_meetings 3 4 89 (some .int) none 31 [some (.ref 38), some (.int v1), none] [] m (some (.int v.1)) v.2 := by
  intro f
  induction f with
  | zero =>
    intro v1 m h
    cases h
  | succ f ih =>
    intro v1 m h
    rw [L_X4_meetings_31] at h
    refine gr_iload_n dX4_meetings_31 rfl rfl ?_
    refine gr_bipush dX4_meetings_32 gk_b_56 ?_
    refine gr_icmp_gt (tgt := 82) dX4_meetings_34 (by decide) h (fun _ h => ?_) (fun _ h => ?_)
    · refine gn_wkn [true, false, false] rfl ?_
      exact hk _ h
    · refine gr_aload_n dX4_meetings_37 rfl rfl ?_
      refine gr_iload_n dX4_meetings_38 rfl rfl ?_
      obtain ⟨x3, hx3, h⟩ := gn_bd h
      refine gc_VI (c_X4_areTwo hx3) my_X4_areTwo mv_X4_areTwo ob_38 ml_X4_203 rfl rfl ⟨Nat.le_of_ble_eq_true rfl, Nat.le_of_ble_eq_true rfl⟩ (Nat.le_of_ble_eq_true rfl) dX4_meetings_39 (fun fx3 => ?_)
      refine gr_if_eq (tgt := 76) dX4_meetings_42 (by decide) h (fun _ h => ?_) (fun _ h => ?_)
      · refine gr_iinc (lv' := [some (.ref 38), some (.int (v1 + (1 : Int32))), none]) dX4_meetings_76 rfl gk_i_1 (by decide) rfl ?_
        refine gr_goto (tgt := 31) dX4_meetings_79 (by decide) ?_
        exact ih _ _ h
      · refine gr_aload_n dX4_meetings_45 rfl rfl ?_
        obtain ⟨x4, hx4, h⟩ := gn_bd h
        refine gc_V0 (c_X4_takeTold hx4) my_X4_takeTold mv_X4_takeTold ob_38 ml_X4_196 rfl rfl ⟨Nat.le_of_ble_eq_true rfl, Nat.le_of_ble_eq_true rfl⟩ (Nat.le_of_ble_eq_true rfl) dX4_meetings_46 (fun fx4 => ?_)
        refine gr_aload_n dX4_meetings_49 rfl rfl ?_
        refine gr_iload_n dX4_meetings_50 rfl rfl ?_
        refine gr_bipush dX4_meetings_51 gk_b_10 ?_
        refine gr_idiv dX4_meetings_53 (by decide) ?_
        refine gr_iload_n dX4_meetings_54 rfl rfl ?_
        refine gr_bipush dX4_meetings_55 gk_b_10 ?_
        refine gr_irem dX4_meetings_57 (by decide) ?_
        obtain ⟨x5, hx5, h⟩ := gn_bd h
        refine gc_V0 (c_X4_meetAside hx5) my_X4_meetAside mv_X4_meetAside ob_38 ml_X4_206 rfl rfl ⟨Nat.le_of_ble_eq_true rfl, Nat.le_of_ble_eq_true rfl⟩ (Nat.le_of_ble_eq_true rfl) dX4_meetings_58 (fun fx5 => ?_)
        refine gr_aload_n dX4_meetings_61 rfl rfl ?_
        obtain ⟨x6, hx6, h⟩ := gn_bd h
        refine gc_VI (c_X4_canAll hx6) my_X4_canAll mv_X4_canAll ob_38 ml_X4_199 rfl rfl ⟨Nat.le_of_ble_eq_true rfl, Nat.le_of_ble_eq_true rfl⟩ (Nat.le_of_ble_eq_true rfl) dX4_meetings_62 (fun fx6 => ?_)
        refine gr_if_eq (tgt := 76) dX4_meetings_65 (by decide) h (fun _ h => ?_) (fun _ h => ?_)
        · refine gr_iinc (lv' := [some (.ref 38), some (.int (v1 + (1 : Int32))), none]) dX4_meetings_76 rfl gk_i_1 (by decide) rfl ?_
          refine gr_goto (tgt := 31) dX4_meetings_79 (by decide) ?_
          exact ih _ _ h
        · refine gr_aload_n dX4_meetings_68 rfl rfl ?_
          refine gr_iload_n dX4_meetings_69 rfl rfl ?_
          obtain ⟨x7, hx7, h⟩ := gn_bd h
          refine gc_VI (c_X4_told hx7) my_X4_told mv_X4_told ob_38 ml_X4_89 rfl rfl ⟨Nat.le_of_ble_eq_true rfl, Nat.le_of_ble_eq_true rfl⟩ (Nat.le_of_ble_eq_true rfl) dX4_meetings_70 (fun fx7 => ?_)
          refine gr_pop dX4_meetings_73 rfl ?_
          refine gr_iconst dX4_meetings_74 gk_i_1 ?_
          exact gq_retIM dX4_meetings_75 rfl h
def L_X4_meetings_92 (n : Nat) (a1 : Int32) (k : gn_M → Option (Int32 × gn_M)) : Nat → Int32 → gn_M → Option (Int32 × gn_M)
  | 0, _, _ => none
  | f + 1, v2, m => (if (56 : Int32) < v2 then k m else (f_X4_areTwo m a1).bind (fun x9 => (if x9 = 0 then k m else (f_X4_areTwo m v2).bind (fun x10 => (if x10 = 0 then L_X4_meetings_92 n a1 k f (v2 + (1 : Int32)) m else (f_X4_takeTold n m).bind (fun x11 => (f_X4_meetAside x11 (a1 / (10 : Int32)) (a1 - a1 / (10 : Int32) * (10 : Int32))).bind (fun x12 => (f_X4_meetAside x12 (v2 / (10 : Int32)) (v2 - v2 / (10 : Int32) * (10 : Int32))).bind (fun x13 => (f_X4_canAll n x13).bind (fun x14 => (if x14.1 = 0 then L_X4_meetings_92 n a1 k f (v2 + (1 : Int32)) x14.2 else (f_X4_told x14.2 (((100 : Int32) * a1) + v2)).bind (fun x15 => some ((2 : Int32), x15.2))))))))))))
set_option maxRecDepth 100000 in
set_option maxHeartbeats 4000000 in
theorem l_X4_meetings_92 {n : Nat} {a1 : Int32} {k : gn_M → Option (Int32 × gn_M)} {v : Int32 × gn_M} (hk : ∀ (m1 : gn_M), k m1 = some v → gn_Go RX4 cX4_meetings 3 4 89 (some .int) none 168 [some (.ref 38), some (.int a1), none] [] m1 (some (.int v.1)) v.2) : ∀ (f : Nat) (v2 : Int32) (m : gn_M), L_X4_meetings_92 n a1 k f v2 m = some v → gn_Go RX4 cX4_meetings 3 4 89 (some .int) none 92 [some (.ref 38), some (.int a1), some (.int v2)] [] m (some (.int v.1)) v.2 := by
  intro f
  induction f with
  | zero =>
    intro v2 m h
    cases h
  | succ f ih =>
    intro v2 m h
    rw [L_X4_meetings_92] at h
    refine gr_iload_n dX4_meetings_92 rfl rfl ?_
    refine gr_bipush dX4_meetings_93 gk_b_56 ?_
    refine gr_icmp_gt (tgt := 168) dX4_meetings_95 (by decide) h (fun _ h => ?_) (fun _ h => ?_)
    · refine gn_wkn [true, true, false] rfl ?_
      exact hk _ h
    · refine gr_aload_n dX4_meetings_98 rfl rfl ?_
      refine gr_iload_n dX4_meetings_99 rfl rfl ?_
      obtain ⟨x9, hx9, h⟩ := gn_bd h
      refine gc_VI (c_X4_areTwo hx9) my_X4_areTwo mv_X4_areTwo ob_38 ml_X4_203 rfl rfl ⟨Nat.le_of_ble_eq_true rfl, Nat.le_of_ble_eq_true rfl⟩ (Nat.le_of_ble_eq_true rfl) dX4_meetings_100 (fun fx9 => ?_)
      refine gr_if_eq (tgt := 168) dX4_meetings_103 (by decide) h (fun _ h => ?_) (fun _ h => ?_)
      · refine gn_wkn [true, true, false] rfl ?_
        exact hk _ h
      · refine gr_aload_n dX4_meetings_106 rfl rfl ?_
        refine gr_iload_n dX4_meetings_107 rfl rfl ?_
        obtain ⟨x10, hx10, h⟩ := gn_bd h
        refine gc_VI (c_X4_areTwo hx10) my_X4_areTwo mv_X4_areTwo ob_38 ml_X4_203 rfl rfl ⟨Nat.le_of_ble_eq_true rfl, Nat.le_of_ble_eq_true rfl⟩ (Nat.le_of_ble_eq_true rfl) dX4_meetings_108 (fun fx10 => ?_)
        refine gr_if_eq (tgt := 162) dX4_meetings_111 (by decide) h (fun _ h => ?_) (fun _ h => ?_)
        · refine gr_iinc (lv' := [some (.ref 38), some (.int a1), some (.int (v2 + (1 : Int32)))]) dX4_meetings_162 rfl gk_i_1 (by decide) rfl ?_
          refine gr_goto (tgt := 92) dX4_meetings_165 (by decide) ?_
          exact ih _ _ h
        · refine gr_aload_n dX4_meetings_114 rfl rfl ?_
          obtain ⟨x11, hx11, h⟩ := gn_bd h
          refine gc_V0 (c_X4_takeTold hx11) my_X4_takeTold mv_X4_takeTold ob_38 ml_X4_196 rfl rfl ⟨Nat.le_of_ble_eq_true rfl, Nat.le_of_ble_eq_true rfl⟩ (Nat.le_of_ble_eq_true rfl) dX4_meetings_115 (fun fx11 => ?_)
          refine gr_aload_n dX4_meetings_118 rfl rfl ?_
          refine gr_iload_n dX4_meetings_119 rfl rfl ?_
          refine gr_bipush dX4_meetings_120 gk_b_10 ?_
          refine gr_idiv dX4_meetings_122 (by decide) ?_
          refine gr_iload_n dX4_meetings_123 rfl rfl ?_
          refine gr_bipush dX4_meetings_124 gk_b_10 ?_
          refine gr_irem dX4_meetings_126 (by decide) ?_
          obtain ⟨x12, hx12, h⟩ := gn_bd h
          refine gc_V0 (c_X4_meetAside hx12) my_X4_meetAside mv_X4_meetAside ob_38 ml_X4_206 rfl rfl ⟨Nat.le_of_ble_eq_true rfl, Nat.le_of_ble_eq_true rfl⟩ (Nat.le_of_ble_eq_true rfl) dX4_meetings_127 (fun fx12 => ?_)
          refine gr_aload_n dX4_meetings_130 rfl rfl ?_
          refine gr_iload_n dX4_meetings_131 rfl rfl ?_
          refine gr_bipush dX4_meetings_132 gk_b_10 ?_
          refine gr_idiv dX4_meetings_134 (by decide) ?_
          refine gr_iload_n dX4_meetings_135 rfl rfl ?_
          refine gr_bipush dX4_meetings_136 gk_b_10 ?_
          refine gr_irem dX4_meetings_138 (by decide) ?_
          obtain ⟨x13, hx13, h⟩ := gn_bd h
          refine gc_V0 (c_X4_meetAside hx13) my_X4_meetAside mv_X4_meetAside ob_38 ml_X4_206 rfl rfl ⟨Nat.le_of_ble_eq_true rfl, Nat.le_of_ble_eq_true rfl⟩ (Nat.le_of_ble_eq_true rfl) dX4_meetings_139 (fun fx13 => ?_)
          refine gr_aload_n dX4_meetings_142 rfl rfl ?_
          obtain ⟨x14, hx14, h⟩ := gn_bd h
          refine gc_VI (c_X4_canAll hx14) my_X4_canAll mv_X4_canAll ob_38 ml_X4_199 rfl rfl ⟨Nat.le_of_ble_eq_true rfl, Nat.le_of_ble_eq_true rfl⟩ (Nat.le_of_ble_eq_true rfl) dX4_meetings_143 (fun fx14 => ?_)
          refine gr_if_eq (tgt := 162) dX4_meetings_146 (by decide) h (fun _ h => ?_) (fun _ h => ?_)
          · refine gr_iinc (lv' := [some (.ref 38), some (.int a1), some (.int (v2 + (1 : Int32)))]) dX4_meetings_162 rfl gk_i_1 (by decide) rfl ?_
            refine gr_goto (tgt := 92) dX4_meetings_165 (by decide) ?_
            exact ih _ _ h
          · refine gr_aload_n dX4_meetings_149 rfl rfl ?_
            refine gr_bipush dX4_meetings_150 gk_b_100 ?_
            refine gr_iload_n dX4_meetings_152 rfl rfl ?_
            refine gr_imul dX4_meetings_153 ?_
            refine gr_iload_n dX4_meetings_154 rfl rfl ?_
            refine gr_iadd dX4_meetings_155 ?_
            obtain ⟨x15, hx15, h⟩ := gn_bd h
            refine gc_VI (c_X4_told hx15) my_X4_told mv_X4_told ob_38 ml_X4_89 rfl rfl ⟨Nat.le_of_ble_eq_true rfl, Nat.le_of_ble_eq_true rfl⟩ (Nat.le_of_ble_eq_true rfl) dX4_meetings_156 (fun fx15 => ?_)
            refine gr_pop dX4_meetings_159 rfl ?_
            refine gr_iconst dX4_meetings_160 gk_i_2 ?_
            exact gq_retIM dX4_meetings_161 rfl h
def L_X4_meetings_84 (n : Nat) (k : gn_M → Option (Int32 × gn_M)) : Nat → Int32 → gn_M → Option (Int32 × gn_M)
  | 0, _, _ => none
  | f + 1, v1, m => (if (56 : Int32) < v1 then k m else L_X4_meetings_92 n v1 (fun (m16 : gn_M) => L_X4_meetings_84 n k f (v1 + (1 : Int32)) m16) n (1 : Int32) m)
set_option maxRecDepth 100000 in
set_option maxHeartbeats 4000000 in
theorem l_X4_meetings_84 {n : Nat} {k : gn_M → Option (Int32 × gn_M)} {v : Int32 × gn_M} (hk : ∀ (m1 : gn_M), k m1 = some v → gn_Go RX4 cX4_meetings 3 4 89 (some .int) none 174 [none, none, none] [] m1 (some (.int v.1)) v.2) : ∀ (f : Nat) (v1 : Int32) (m : gn_M), L_X4_meetings_84 n k f v1 m = some v → gn_Go RX4 cX4_meetings 3 4 89 (some .int) none 84 [some (.ref 38), some (.int v1), none] [] m (some (.int v.1)) v.2 := by
  intro f
  induction f with
  | zero =>
    intro v1 m h
    cases h
  | succ f ih =>
    intro v1 m h
    rw [L_X4_meetings_84] at h
    refine gr_iload_n dX4_meetings_84 rfl rfl ?_
    refine gr_bipush dX4_meetings_85 gk_b_56 ?_
    refine gr_icmp_gt (tgt := 174) dX4_meetings_87 (by decide) h (fun _ h => ?_) (fun _ h => ?_)
    · refine gn_wkn [false, false, false] rfl ?_
      exact hk _ h
    · refine gr_iconst dX4_meetings_90 gk_i_1 ?_
      refine gr_istore_n (lv' := [some (.ref 38), some (.int v1), some (.int (1 : Int32))]) dX4_meetings_91 rfl (by decide) rfl ?_
      refine l_X4_meetings_92 (fun m16 h => ?_) _ _ _ h
      refine gr_iinc (lv' := [some (.ref 38), some (.int (v1 + (1 : Int32))), none]) dX4_meetings_168 rfl gk_i_1 (by decide) rfl ?_
      refine gr_goto (tgt := 84) dX4_meetings_171 (by decide) ?_
      exact ih _ _ h
def f_X4_meetings (n : Nat) (m : gn_M) : Option (Int32 × gn_M) := (if (m.1 38 10) = 0 then some ((-4 : Int32), m) else (f_X4_takeTold n m).bind (fun x1 => (f_X4_canAll n x1).bind (fun x2 => (if x2.1 = 0 then L_X4_meetings_31 n (fun (m8 : gn_M) => L_X4_meetings_84 n (fun (m17 : gn_M) => some ((-9 : Int32), m17)) n (1 : Int32) m8) n (1 : Int32) x2.2 else (f_X4_told x2.2 (0 : Int32)).bind (fun x18 => some ((0 : Int32), x18.2))))))
set_option maxRecDepth 100000 in
set_option maxHeartbeats 4000000 in
theorem c_X4_meetings {n : Nat} {m : gn_M} {v : Int32 × gn_M} (h : f_X4_meetings n m = some v) : gn_Cl yX4_meetings cX4_meetings 3 (some .int) 4 89 [.ref 38] m (some (.int v.1)) v.2 := by
  rw [f_X4_meetings] at h
  refine gn_met (lv := [some (.ref 38), none, none]) pl_X4 rfl rfl (Nat.le_of_ble_eq_true rfl) ?_
  refine gr_aload_n dX4_meetings_0 rfl rfl ?_
  refine gr_getI q_38_10 fl_X4_104 dX4_meetings_1 ?_
  refine gr_if_ne (tgt := 10) dX4_meetings_4 (by decide) h (fun _ h => ?_) (fun _ h => ?_)
  · refine gr_bipush dX4_meetings_7 gk_b_m4 ?_
    exact gq_retIM dX4_meetings_9 rfl h
  · refine gr_aload_n dX4_meetings_10 rfl rfl ?_
    obtain ⟨x1, hx1, h⟩ := gn_bd h
    refine gc_V0 (c_X4_takeTold hx1) my_X4_takeTold mv_X4_takeTold ob_38 ml_X4_196 rfl rfl ⟨Nat.le_of_ble_eq_true rfl, Nat.le_of_ble_eq_true rfl⟩ (Nat.le_of_ble_eq_true rfl) dX4_meetings_11 (fun fx1 => ?_)
    refine gr_aload_n dX4_meetings_14 rfl rfl ?_
    obtain ⟨x2, hx2, h⟩ := gn_bd h
    refine gc_VI (c_X4_canAll hx2) my_X4_canAll mv_X4_canAll ob_38 ml_X4_199 rfl rfl ⟨Nat.le_of_ble_eq_true rfl, Nat.le_of_ble_eq_true rfl⟩ (Nat.le_of_ble_eq_true rfl) dX4_meetings_15 (fun fx2 => ?_)
    refine gr_if_eq (tgt := 29) dX4_meetings_18 (by decide) h (fun _ h => ?_) (fun _ h => ?_)
    · refine gr_iconst dX4_meetings_29 gk_i_1 ?_
      refine gr_istore_n (lv' := [some (.ref 38), some (.int (1 : Int32)), none]) dX4_meetings_30 rfl (by decide) rfl ?_
      refine l_X4_meetings_31 (fun m8 h => ?_) _ _ _ h
      refine gr_iconst dX4_meetings_82 gk_i_1 ?_
      refine gr_istore_n (lv' := [some (.ref 38), some (.int (1 : Int32)), none]) dX4_meetings_83 rfl (by decide) rfl ?_
      refine l_X4_meetings_84 (fun m17 h => ?_) _ _ _ h
      refine gr_bipush dX4_meetings_174 gk_b_m9 ?_
      exact gq_retIM dX4_meetings_176 rfl h
    · refine gr_aload_n dX4_meetings_21 rfl rfl ?_
      refine gr_iconst dX4_meetings_22 gk_i_0 ?_
      obtain ⟨x18, hx18, h⟩ := gn_bd h
      refine gc_VI (c_X4_told hx18) my_X4_told mv_X4_told ob_38 ml_X4_89 rfl rfl ⟨Nat.le_of_ble_eq_true rfl, Nat.le_of_ble_eq_true rfl⟩ (Nat.le_of_ble_eq_true rfl) dX4_meetings_23 (fun fx18 => ?_)
      refine gr_pop dX4_meetings_26 rfl ?_
      refine gr_iconst dX4_meetings_27 gk_i_0 ?_
      exact gq_retIM dX4_meetings_28 rfl h
def L_X4_mostOf_4 (n : Nat) (m : gn_M) (a1 : Int32) (k : Int32 → Option (Int32)) : Nat → Int32 → Int32 → Option (Int32)
  | 0, _, _ => none
  | f + 1, v2, v3 => (if v3 < ((1 : Int32) <<< ((m.1 38 10) &&& 31)) then gn_jn (fun (j1 : Int32) => (if j1 = 0 then L_X4_mostOf_4 n m a1 k f v2 (v3 + (1 : Int32)) else (f_X4_bitsOf n v3).bind (fun x3 => L_X4_mostOf_4 n m a1 k f x3 (v3 + (1 : Int32))))) (fun J2 => (if (v3 &&& (a1 ^^^ (-1 : Int32))) = 0 then (f_X4_ordersOf n m v3).bind (fun x4 => (if 0 < x4 then (f_X4_bitsOf n v3).bind (fun x5 => (if v2 < x5 then J2 (1 : Int32) else J2 (0 : Int32))) else J2 (0 : Int32))) else J2 (0 : Int32))) else k v2)
set_option maxRecDepth 100000 in
set_option maxHeartbeats 4000000 in
theorem l_X4_mostOf_4 {n : Nat} {m : gn_M} {a1 : Int32} {k : Int32 → Option (Int32)} {v : Int32} (hk : ∀ (e2 : Int32), k e2 = some v → gn_Go RX4 cX4_mostOf 5 1 23 (some .int) none 65 [none, none, some (.int e2), none, none] [] m (some (.int v)) m) : ∀ (f : Nat) (v2 : Int32) (v3 : Int32), L_X4_mostOf_4 n m a1 k f v2 v3 = some v → gn_Go RX4 cX4_mostOf 5 1 23 (some .int) none 4 [some (.ref 38), some (.int a1), some (.int v2), some (.int v3), none] [] m (some (.int v)) m := by
  intro f
  induction f with
  | zero =>
    intro v2 v3 h
    cases h
  | succ f ih =>
    intro v2 v3 h
    rw [L_X4_mostOf_4] at h
    refine gr_iload_n dX4_mostOf_4 rfl rfl ?_
    refine gr_iconst dX4_mostOf_5 gk_i_1 ?_
    refine gr_aload_n dX4_mostOf_6 rfl rfl ?_
    refine gr_getI q_38_10 fl_X4_104 dX4_mostOf_7 ?_
    refine gr_ishl dX4_mostOf_10 ?_
    refine gr_icmp_ge (tgt := 65) dX4_mostOf_11 (by decide) h (fun _ h => ?_) (fun _ h => ?_)
    · refine gr_iload_n dX4_mostOf_14 rfl rfl ?_
      refine gr_iload_n dX4_mostOf_15 rfl rfl ?_
      refine gr_iconst dX4_mostOf_16 gk_i_m1 ?_
      refine gr_ixor dX4_mostOf_17 ?_
      refine gr_iand dX4_mostOf_18 ?_
      refine gn_jnE (P := fun (j1 : Int32) => gn_Go RX4 cX4_mostOf 5 1 23 (some .int) none 43 [some (.ref 38), some (.int a1), some (.int v2), some (.int v3), none] [.int j1] m (some (.int v)) m) h (fun j1 h => ?_) (fun J2 hJ2 h => ?_)
      · refine gr_istore (lv' := [some (.ref 38), some (.int a1), some (.int v2), some (.int v3), some (.int j1)]) dX4_mostOf_43 (by decide) rfl ?_
        refine gr_iload dX4_mostOf_45 rfl ?_
        refine gr_if_eq (tgt := 57) dX4_mostOf_47 (by decide) h (fun _ h => ?_) (fun _ h => ?_)
        · refine gr_iload_n dX4_mostOf_57 rfl rfl ?_
          refine gr_istore_n (lv' := [some (.ref 38), some (.int a1), some (.int v2), some (.int v3), some (.int j1)]) dX4_mostOf_58 rfl (by decide) rfl ?_
          refine gr_iinc (lv' := [some (.ref 38), some (.int a1), some (.int v2), some (.int (v3 + (1 : Int32))), some (.int j1)]) dX4_mostOf_59 rfl gk_i_1 (by decide) rfl ?_
          refine gr_goto (tgt := 4) dX4_mostOf_62 (by decide) ?_
          refine gn_wkn [true, true, true, true, false] rfl ?_
          exact ih _ _ h
        · refine gr_iload_n dX4_mostOf_50 rfl rfl ?_
          obtain ⟨x3, hx3, h⟩ := gn_bd h
          refine gc_SI (c_X4_bitsOf hx3) my_X4_bitsOf ms_X4_bitsOf ml_X4_153 rfl rfl ⟨Nat.le_of_ble_eq_true rfl, Nat.le_of_ble_eq_true rfl⟩ (Nat.le_of_ble_eq_true rfl) dX4_mostOf_51 (fun fx3 => ?_)
          refine gr_goto (tgt := 58) dX4_mostOf_54 (by decide) ?_
          refine gr_istore_n (lv' := [some (.ref 38), some (.int a1), some (.int x3), some (.int v3), some (.int j1)]) dX4_mostOf_58 rfl (by decide) rfl ?_
          refine gr_iinc (lv' := [some (.ref 38), some (.int a1), some (.int x3), some (.int (v3 + (1 : Int32))), some (.int j1)]) dX4_mostOf_59 rfl gk_i_1 (by decide) rfl ?_
          refine gr_goto (tgt := 4) dX4_mostOf_62 (by decide) ?_
          refine gn_wkn [true, true, true, true, false] rfl ?_
          exact ih _ _ h
      · refine gr_if_ne (tgt := 42) dX4_mostOf_19 (by decide) h (fun _ h => ?_) (fun _ h => ?_)
        · refine gr_aload_n dX4_mostOf_22 rfl rfl ?_
          refine gr_iload_n dX4_mostOf_23 rfl rfl ?_
          obtain ⟨x4, hx4, h⟩ := gn_bd h
          refine gc_VI (c_X4_ordersOf hx4) my_X4_ordersOf mv_X4_ordersOf ob_38 ml_X4_175 rfl rfl ⟨Nat.le_of_ble_eq_true rfl, Nat.le_of_ble_eq_true rfl⟩ (Nat.le_of_ble_eq_true rfl) dX4_mostOf_24 (fun fx4 => ?_)
          refine gr_if_le (tgt := 42) dX4_mostOf_27 (by decide) h (fun _ h => ?_) (fun _ h => ?_)
          · refine gr_iload_n dX4_mostOf_30 rfl rfl ?_
            obtain ⟨x5, hx5, h⟩ := gn_bd h
            refine gc_SI (c_X4_bitsOf hx5) my_X4_bitsOf ms_X4_bitsOf ml_X4_153 rfl rfl ⟨Nat.le_of_ble_eq_true rfl, Nat.le_of_ble_eq_true rfl⟩ (Nat.le_of_ble_eq_true rfl) dX4_mostOf_31 (fun fx5 => ?_)
            refine gr_iload_n dX4_mostOf_34 rfl rfl ?_
            refine gr_icmp_le (tgt := 42) dX4_mostOf_35 (by decide) h (fun _ h => ?_) (fun _ h => ?_)
            · refine gr_iconst dX4_mostOf_38 gk_i_1 ?_
              refine gr_goto (tgt := 43) dX4_mostOf_39 (by decide) ?_
              exact hJ2 (1 : Int32) h
            · refine gr_iconst dX4_mostOf_42 gk_i_0 ?_
              exact hJ2 (0 : Int32) h
          · refine gr_iconst dX4_mostOf_42 gk_i_0 ?_
            exact hJ2 (0 : Int32) h
        · refine gr_iconst dX4_mostOf_42 gk_i_0 ?_
          exact hJ2 (0 : Int32) h
    · refine gn_wkn [false, false, true, false, false] rfl ?_
      exact hk _ h
def f_X4_mostOf (n : Nat) (m : gn_M) (p0 : Int32) : Option (Int32) := L_X4_mostOf_4 n m p0 (fun (e6 : Int32) => some e6) n (0 : Int32) (0 : Int32)
set_option maxRecDepth 100000 in
set_option maxHeartbeats 4000000 in
theorem c_X4_mostOf {n : Nat} {m : gn_M} {p0 : Int32} {v : Int32} (h : f_X4_mostOf n m p0 = some v) : gn_Cl yX4_mostOf cX4_mostOf 5 (some .int) 1 23 [.ref 38, .int p0] m (some (.int v)) m := by
  rw [f_X4_mostOf] at h
  refine gn_met (lv := [some (.ref 38), some (.int p0), none, none, none]) pl_X4 rfl rfl (Nat.le_of_ble_eq_true rfl) ?_
  refine gr_iconst dX4_mostOf_0 gk_i_0 ?_
  refine gr_istore_n (lv' := [some (.ref 38), some (.int p0), some (.int (0 : Int32)), none, none]) dX4_mostOf_1 rfl (by decide) rfl ?_
  refine gr_iconst dX4_mostOf_2 gk_i_0 ?_
  refine gr_istore_n (lv' := [some (.ref 38), some (.int p0), some (.int (0 : Int32)), some (.int (0 : Int32)), none]) dX4_mostOf_3 rfl (by decide) rfl ?_
  refine l_X4_mostOf_4 (fun e6 h => ?_) _ _ _ h
  refine gr_iload_n dX4_mostOf_65 rfl rfl ?_
  exact gq_retI dX4_mostOf_66 rfl h
def L_X4_stone_51 (n : Nat) (a1 : Int32) (a2 : Int32) (a3 : Int32) (a4 : Int32) (k : gn_M → Option (Int32 × gn_M)) : Nat → Int32 → gn_M → Option (Int32 × gn_M)
  | 0, _, _ => none
  | f + 1, v5, m => (if v5 < (m.1 38 10) then gn_jn (fun (j4 : Int32) => (f_X4_toldOf m v5).bind (fun x6 => (f_X4_namesBy n m v5 (x6 ||| j4)).bind (fun x7 => gn_wr m 51 7 v5 x7 (fun m8 => L_X4_stone_51 n a1 a2 a3 a4 k f (v5 + (1 : Int32)) m8)))) (fun J5 => (if v5 = a3 then J5 (0 : Int32) else (f_X4_isThrough m v5).bind (fun x9 => (if x9 = 0 then J5 (a4 &&& (((1 : Int32) <<< (v5 &&& 31)) ^^^ (-1 : Int32))) else J5 (0 : Int32))))) else k m)
set_option maxRecDepth 100000 in
set_option maxHeartbeats 4000000 in
theorem l_X4_stone_51 {n : Nat} {a1 : Int32} {a2 : Int32} {a3 : Int32} {a4 : Int32} {k : gn_M → Option (Int32 × gn_M)} {v : Int32 × gn_M} (hk : ∀ (m1 : gn_M), k m1 = some v → gn_Go RX4 cX4_stone 7 3 68 (some .int) none 118 [some (.ref 38), some (.int a1), some (.int a2), some (.int a3), none, none, none] [] m1 (some (.int v.1)) v.2) : ∀ (f : Nat) (v5 : Int32) (m : gn_M), L_X4_stone_51 n a1 a2 a3 a4 k f v5 m = some v → gn_Go RX4 cX4_stone 7 3 68 (some .int) none 51 [some (.ref 38), some (.int a1), some (.int a2), some (.int a3), some (.int a4), some (.int v5), none] [] m (some (.int v.1)) v.2 := by
  intro f
  induction f with
  | zero =>
    intro v5 m h
    cases h
  | succ f ih =>
    intro v5 m h
    rw [L_X4_stone_51] at h
    refine gr_iload dX4_stone_51 rfl ?_
    refine gr_aload_n dX4_stone_53 rfl rfl ?_
    refine gr_getI q_38_10 fl_X4_104 dX4_stone_54 ?_
    refine gr_icmp_ge (tgt := 118) dX4_stone_57 (by decide) h (fun _ h => ?_) (fun _ h => ?_)
    · refine gr_iload dX4_stone_60 rfl ?_
      refine gr_iload_n dX4_stone_62 rfl rfl ?_
      refine gn_jnE (P := fun (j4 : Int32) => gn_Go RX4 cX4_stone 7 3 68 (some .int) none 88 [some (.ref 38), some (.int a1), some (.int a2), some (.int a3), some (.int a4), some (.int v5), none] [.int j4] m (some (.int v.1)) v.2) h (fun j4 h => ?_) (fun J5 hJ5 h => ?_)
      · refine gr_istore (lv' := [some (.ref 38), some (.int a1), some (.int a2), some (.int a3), some (.int a4), some (.int v5), some (.int j4)]) dX4_stone_88 (by decide) rfl ?_
        refine gr_aload_n dX4_stone_90 rfl rfl ?_
        refine gr_getR q_38_19 fl_X4_51 dX4_stone_91 ?_
        refine gr_iload dX4_stone_94 rfl ?_
        refine gr_aload_n dX4_stone_96 rfl rfl ?_
        refine gr_iload dX4_stone_97 rfl ?_
        refine gr_aload_n dX4_stone_99 rfl rfl ?_
        refine gr_iload dX4_stone_100 rfl ?_
        obtain ⟨x6, hx6, h⟩ := gn_bd h
        refine gc_VI (c_X4_toldOf hx6) my_X4_toldOf mv_X4_toldOf ob_38 ml_X4_113 rfl rfl ⟨Nat.le_of_ble_eq_true rfl, Nat.le_of_ble_eq_true rfl⟩ (Nat.le_of_ble_eq_true rfl) dX4_stone_102 (fun fx6 => ?_)
        refine gr_iload dX4_stone_105 rfl ?_
        refine gr_ior dX4_stone_107 ?_
        obtain ⟨x7, hx7, h⟩ := gn_bd h
        refine gc_VI (c_X4_namesBy hx7) my_X4_namesBy mv_X4_namesBy ob_38 ml_X4_127 rfl rfl ⟨Nat.le_of_ble_eq_true rfl, Nat.le_of_ble_eq_true rfl⟩ (Nat.le_of_ble_eq_true rfl) dX4_stone_108 (fun fx7 => ?_)
        refine gq_iastore s_51 dX4_stone_111 h (fun m8 h => ?_)
        refine gr_iinc (lv' := [some (.ref 38), some (.int a1), some (.int a2), some (.int a3), some (.int a4), some (.int (v5 + (1 : Int32))), some (.int j4)]) dX4_stone_112 rfl gk_i_1 (by decide) rfl ?_
        refine gr_goto (tgt := 51) dX4_stone_115 (by decide) ?_
        refine gn_wkn [true, true, true, true, true, true, false] rfl ?_
        exact ih _ _ h
      · refine gr_icmp_eq (tgt := 87) dX4_stone_63 (by decide) h (fun _ h => ?_) (fun _ h => ?_)
        · refine gr_iconst dX4_stone_87 gk_i_0 ?_
          exact hJ5 (0 : Int32) h
        · refine gr_aload_n dX4_stone_66 rfl rfl ?_
          refine gr_iload dX4_stone_67 rfl ?_
          obtain ⟨x9, hx9, h⟩ := gn_bd h
          refine gc_VI (c_X4_isThrough hx9) my_X4_isThrough mv_X4_isThrough ob_38 ml_X4_131 rfl rfl ⟨Nat.le_of_ble_eq_true rfl, Nat.le_of_ble_eq_true rfl⟩ (Nat.le_of_ble_eq_true rfl) dX4_stone_69 (fun fx9 => ?_)
          refine gr_if_ne (tgt := 87) dX4_stone_72 (by decide) h (fun _ h => ?_) (fun _ h => ?_)
          · refine gr_iload dX4_stone_75 rfl ?_
            refine gr_iconst dX4_stone_77 gk_i_1 ?_
            refine gr_iload dX4_stone_78 rfl ?_
            refine gr_ishl dX4_stone_80 ?_
            refine gr_iconst dX4_stone_81 gk_i_m1 ?_
            refine gr_ixor dX4_stone_82 ?_
            refine gr_iand dX4_stone_83 ?_
            refine gr_goto (tgt := 88) dX4_stone_84 (by decide) ?_
            exact hJ5 (a4 &&& (((1 : Int32) <<< (v5 &&& 31)) ^^^ (-1 : Int32))) h
          · refine gr_iconst dX4_stone_87 gk_i_0 ?_
            exact hJ5 (0 : Int32) h
    · refine gn_wkn [true, true, true, true, false, false, false] rfl ?_
      exact hk _ h
def L_X4_stone_18 (n : Nat) (k : Int32 → Int32 → gn_M → Option (Int32 × gn_M)) : Nat → Int32 → Int32 → Int32 → gn_M → Option (Int32 × gn_M)
  | 0, _, _, _, _ => none
  | f + 1, v1, v2, v3, m => (if v3 < (m.1 38 10) then (f_X4_isThrough m v3).bind (fun x1 => (if x1 = 0 then (f_X4_now m (9 : Int32)).bind (fun x2 => (f_X4_tellsOf m v3).bind (fun x3 => L_X4_stone_51 n v1 v2 v3 (x2 ||| x3) (fun (m10 : gn_M) => (f_X4_tellWays n m10).bind (fun x11 => (f_X4_left x11).bind (fun x12 => (f_X4_mostOf n x11 x12).bind (fun x13 => (if v2 < x13 then L_X4_stone_18 n k f v3 x13 (v3 + (1 : Int32)) x11 else L_X4_stone_18 n k f v1 v2 (v3 + (1 : Int32)) x11))))) n (0 : Int32) m)) else L_X4_stone_18 n k f v1 v2 (v3 + (1 : Int32)) m)) else k v1 v2 m)
set_option maxRecDepth 100000 in
set_option maxHeartbeats 4000000 in
theorem l_X4_stone_18 {n : Nat} {k : Int32 → Int32 → gn_M → Option (Int32 × gn_M)} {v : Int32 × gn_M} (hk : ∀ (e1 : Int32) (e2 : Int32) (m1 : gn_M), k e1 e2 m1 = some v → gn_Go RX4 cX4_stone 7 3 68 (some .int) none 149 [some (.ref 38), some (.int e1), some (.int e2), none, none, none, none] [] m1 (some (.int v.1)) v.2) : ∀ (f : Nat) (v1 : Int32) (v2 : Int32) (v3 : Int32) (m : gn_M), L_X4_stone_18 n k f v1 v2 v3 m = some v → gn_Go RX4 cX4_stone 7 3 68 (some .int) none 18 [some (.ref 38), some (.int v1), some (.int v2), some (.int v3), none, none, none] [] m (some (.int v.1)) v.2 := by
  intro f
  induction f with
  | zero =>
    intro v1 v2 v3 m h
    cases h
  | succ f ih =>
    intro v1 v2 v3 m h
    rw [L_X4_stone_18] at h
    refine gr_iload_n dX4_stone_18 rfl rfl ?_
    refine gr_aload_n dX4_stone_19 rfl rfl ?_
    refine gr_getI q_38_10 fl_X4_104 dX4_stone_20 ?_
    refine gr_icmp_ge (tgt := 149) dX4_stone_23 (by decide) h (fun _ h => ?_) (fun _ h => ?_)
    · refine gr_aload_n dX4_stone_26 rfl rfl ?_
      refine gr_iload_n dX4_stone_27 rfl rfl ?_
      obtain ⟨x1, hx1, h⟩ := gn_bd h
      refine gc_VI (c_X4_isThrough hx1) my_X4_isThrough mv_X4_isThrough ob_38 ml_X4_131 rfl rfl ⟨Nat.le_of_ble_eq_true rfl, Nat.le_of_ble_eq_true rfl⟩ (Nat.le_of_ble_eq_true rfl) dX4_stone_28 (fun fx1 => ?_)
      refine gr_if_ne (tgt := 143) dX4_stone_31 (by decide) h (fun _ h => ?_) (fun _ h => ?_)
      · refine gr_aload_n dX4_stone_34 rfl rfl ?_
        refine gr_bipush dX4_stone_35 gk_b_9 ?_
        obtain ⟨x2, hx2, h⟩ := gn_bd h
        refine gc_VI (c_X4_now hx2) my_X4_now mv_X4_now ob_38 ml_X4_110 rfl rfl ⟨Nat.le_of_ble_eq_true rfl, Nat.le_of_ble_eq_true rfl⟩ (Nat.le_of_ble_eq_true rfl) dX4_stone_37 (fun fx2 => ?_)
        refine gr_aload_n dX4_stone_40 rfl rfl ?_
        refine gr_iload_n dX4_stone_41 rfl rfl ?_
        obtain ⟨x3, hx3, h⟩ := gn_bd h
        refine gc_VI (c_X4_tellsOf hx3) my_X4_tellsOf mv_X4_tellsOf ob_38 ml_X4_140 rfl rfl ⟨Nat.le_of_ble_eq_true rfl, Nat.le_of_ble_eq_true rfl⟩ (Nat.le_of_ble_eq_true rfl) dX4_stone_42 (fun fx3 => ?_)
        refine gr_ior dX4_stone_45 ?_
        refine gr_istore (lv' := [some (.ref 38), some (.int v1), some (.int v2), some (.int v3), some (.int (x2 ||| x3)), none, none]) dX4_stone_46 (by decide) rfl ?_
        refine gr_iconst dX4_stone_48 gk_i_0 ?_
        refine gr_istore (lv' := [some (.ref 38), some (.int v1), some (.int v2), some (.int v3), some (.int (x2 ||| x3)), some (.int (0 : Int32)), none]) dX4_stone_49 (by decide) rfl ?_
        refine l_X4_stone_51 (fun m10 h => ?_) _ _ _ h
        refine gr_aload_n dX4_stone_118 rfl rfl ?_
        obtain ⟨x11, hx11, h⟩ := gn_bd h
        refine gc_V0 (c_X4_tellWays hx11) my_X4_tellWays mv_X4_tellWays ob_38 ml_X4_190 rfl rfl ⟨Nat.le_of_ble_eq_true rfl, Nat.le_of_ble_eq_true rfl⟩ (Nat.le_of_ble_eq_true rfl) dX4_stone_119 (fun fx11 => ?_)
        refine gr_aload_n dX4_stone_122 rfl rfl ?_
        refine gr_aload_n dX4_stone_123 rfl rfl ?_
        obtain ⟨x12, hx12, h⟩ := gn_bd h
        refine gc_VI (c_X4_left hx12) my_X4_left mv_X4_left ob_38 ml_X4_149 rfl rfl ⟨Nat.le_of_ble_eq_true rfl, Nat.le_of_ble_eq_true rfl⟩ (Nat.le_of_ble_eq_true rfl) dX4_stone_124 (fun fx12 => ?_)
        obtain ⟨x13, hx13, h⟩ := gn_bd h
        refine gc_VI (c_X4_mostOf hx13) my_X4_mostOf mv_X4_mostOf ob_38 ml_X4_210 rfl rfl ⟨Nat.le_of_ble_eq_true rfl, Nat.le_of_ble_eq_true rfl⟩ (Nat.le_of_ble_eq_true rfl) dX4_stone_127 (fun fx13 => ?_)
        refine gr_istore (lv' := [some (.ref 38), some (.int v1), some (.int v2), some (.int v3), none, some (.int x13), none]) dX4_stone_130 (by decide) rfl ?_
        refine gr_iload dX4_stone_132 rfl ?_
        refine gr_iload_n dX4_stone_134 rfl rfl ?_
        refine gr_icmp_le (tgt := 143) dX4_stone_135 (by decide) h (fun _ h => ?_) (fun _ h => ?_)
        · refine gr_iload_n dX4_stone_138 rfl rfl ?_
          refine gr_istore_n (lv' := [some (.ref 38), some (.int v3), some (.int v2), some (.int v3), none, some (.int x13), none]) dX4_stone_139 rfl (by decide) rfl ?_
          refine gr_iload dX4_stone_140 rfl ?_
          refine gr_istore_n (lv' := [some (.ref 38), some (.int v3), some (.int x13), some (.int v3), none, some (.int x13), none]) dX4_stone_142 rfl (by decide) rfl ?_
          refine gr_iinc (lv' := [some (.ref 38), some (.int v3), some (.int x13), some (.int (v3 + (1 : Int32))), none, some (.int x13), none]) dX4_stone_143 rfl gk_i_1 (by decide) rfl ?_
          refine gr_goto (tgt := 18) dX4_stone_146 (by decide) ?_
          refine gn_wkn [true, true, true, true, false, false, false] rfl ?_
          exact ih _ _ _ _ h
        · refine gr_iinc (lv' := [some (.ref 38), some (.int v1), some (.int v2), some (.int (v3 + (1 : Int32))), none, some (.int x13), none]) dX4_stone_143 rfl gk_i_1 (by decide) rfl ?_
          refine gr_goto (tgt := 18) dX4_stone_146 (by decide) ?_
          refine gn_wkn [true, true, true, true, false, false, false] rfl ?_
          exact ih _ _ _ _ h
      · refine gr_iinc (lv' := [some (.ref 38), some (.int v1), some (.int v2), some (.int (v3 + (1 : Int32))), none, none, none]) dX4_stone_143 rfl gk_i_1 (by decide) rfl ?_
        refine gr_goto (tgt := 18) dX4_stone_146 (by decide) ?_
        exact ih _ _ _ _ h
    · refine gn_wkn [true, true, true, false, false, false, false] rfl ?_
      exact hk _ _ _ h
def f_X4_stone (n : Nat) (m : gn_M) : Option (Int32 × gn_M) := (if (m.1 38 10) = 0 then some ((-4 : Int32), m) else L_X4_stone_18 n (fun (e14 : Int32) (e15 : Int32) (m16 : gn_M) => (if e14 = (-9 : Int32) then some (e14, m16) else (f_X4_told m16 e15).bind (fun x17 => some (e14, x17.2)))) n (-9 : Int32) (-9 : Int32) (0 : Int32) m)
set_option maxRecDepth 100000 in
set_option maxHeartbeats 4000000 in
theorem c_X4_stone {n : Nat} {m : gn_M} {v : Int32 × gn_M} (h : f_X4_stone n m = some v) : gn_Cl yX4_stone cX4_stone 7 (some .int) 3 68 [.ref 38] m (some (.int v.1)) v.2 := by
  rw [f_X4_stone] at h
  refine gn_met (lv := [some (.ref 38), none, none, none, none, none, none]) pl_X4 rfl rfl (Nat.le_of_ble_eq_true rfl) ?_
  refine gr_aload_n dX4_stone_0 rfl rfl ?_
  refine gr_getI q_38_10 fl_X4_104 dX4_stone_1 ?_
  refine gr_if_ne (tgt := 10) dX4_stone_4 (by decide) h (fun _ h => ?_) (fun _ h => ?_)
  · refine gr_bipush dX4_stone_7 gk_b_m4 ?_
    exact gq_retIM dX4_stone_9 rfl h
  · refine gr_bipush dX4_stone_10 gk_b_m9 ?_
    refine gr_istore_n (lv' := [some (.ref 38), some (.int (-9 : Int32)), none, none, none, none, none]) dX4_stone_12 rfl (by decide) rfl ?_
    refine gr_bipush dX4_stone_13 gk_b_m9 ?_
    refine gr_istore_n (lv' := [some (.ref 38), some (.int (-9 : Int32)), some (.int (-9 : Int32)), none, none, none, none]) dX4_stone_15 rfl (by decide) rfl ?_
    refine gr_iconst dX4_stone_16 gk_i_0 ?_
    refine gr_istore_n (lv' := [some (.ref 38), some (.int (-9 : Int32)), some (.int (-9 : Int32)), some (.int (0 : Int32)), none, none, none]) dX4_stone_17 rfl (by decide) rfl ?_
    refine l_X4_stone_18 (fun e14 e15 m16 h => ?_) _ _ _ _ _ h
    refine gr_iload_n dX4_stone_149 rfl rfl ?_
    refine gr_bipush dX4_stone_150 gk_b_m9 ?_
    refine gr_icmp_eq (tgt := 161) dX4_stone_152 (by decide) h (fun _ h => ?_) (fun _ h => ?_)
    · refine gr_iload_n dX4_stone_161 rfl rfl ?_
      exact gq_retIM dX4_stone_162 rfl h
    · refine gr_aload_n dX4_stone_155 rfl rfl ?_
      refine gr_iload_n dX4_stone_156 rfl rfl ?_
      obtain ⟨x17, hx17, h⟩ := gn_bd h
      refine gc_VI (c_X4_told hx17) my_X4_told mv_X4_told ob_38 ml_X4_89 rfl rfl ⟨Nat.le_of_ble_eq_true rfl, Nat.le_of_ble_eq_true rfl⟩ (Nat.le_of_ble_eq_true rfl) dX4_stone_157 (fun fx17 => ?_)
      refine gr_pop dX4_stone_160 rfl ?_
      refine gr_iload_n dX4_stone_161 rfl rfl ?_
      exact gq_retIM dX4_stone_162 rfl h
def L_X4_hold_26 (n : Nat) (m : gn_M) (k : Int32 → Int32 → Option (Int32 × gn_M)) : Nat → Int32 → Int32 → Int32 → Option (Int32 × gn_M)
  | 0, _, _, _ => none
  | f + 1, v1, v2, v3 => (if v3 < (m.1 38 10) then (f_X4_isThrough m v3).bind (fun x3 => (if x3 = 0 then (f_X4_left m).bind (fun x4 => (f_X4_mostOf n m (x4 &&& (((1 : Int32) <<< (v3 &&& 31)) ^^^ (-1 : Int32)))).bind (fun x5 => (if x5 < v2 then L_X4_hold_26 n m k f v3 x5 (v3 + (1 : Int32)) else L_X4_hold_26 n m k f v1 v2 (v3 + (1 : Int32))))) else L_X4_hold_26 n m k f v1 v2 (v3 + (1 : Int32)))) else k v1 v2)
set_option maxRecDepth 100000 in
set_option maxHeartbeats 4000000 in
theorem l_X4_hold_26 {n : Nat} {m : gn_M} {k : Int32 → Int32 → Option (Int32 × gn_M)} {v : Int32 × gn_M} (hk : ∀ (e1 : Int32) (e2 : Int32), k e1 e2 = some v → gn_Go RX4 cX4_hold 5 4 89 (some .int) none 75 [some (.ref 38), some (.int e1), some (.int e2), none, none] [] m (some (.int v.1)) v.2) : ∀ (f : Nat) (v1 : Int32) (v2 : Int32) (v3 : Int32), L_X4_hold_26 n m k f v1 v2 v3 = some v → gn_Go RX4 cX4_hold 5 4 89 (some .int) none 26 [some (.ref 38), some (.int v1), some (.int v2), some (.int v3), none] [] m (some (.int v.1)) v.2 := by
  intro f
  induction f with
  | zero =>
    intro v1 v2 v3 h
    cases h
  | succ f ih =>
    intro v1 v2 v3 h
    rw [L_X4_hold_26] at h
    refine gr_iload_n dX4_hold_26 rfl rfl ?_
    refine gr_aload_n dX4_hold_27 rfl rfl ?_
    refine gr_getI q_38_10 fl_X4_104 dX4_hold_28 ?_
    refine gr_icmp_ge (tgt := 75) dX4_hold_31 (by decide) h (fun _ h => ?_) (fun _ h => ?_)
    · refine gr_aload_n dX4_hold_34 rfl rfl ?_
      refine gr_iload_n dX4_hold_35 rfl rfl ?_
      obtain ⟨x3, hx3, h⟩ := gn_bd h
      refine gc_VI (c_X4_isThrough hx3) my_X4_isThrough mv_X4_isThrough ob_38 ml_X4_131 rfl rfl ⟨Nat.le_of_ble_eq_true rfl, Nat.le_of_ble_eq_true rfl⟩ (Nat.le_of_ble_eq_true rfl) dX4_hold_36 (fun fx3 => ?_)
      refine gr_if_ne (tgt := 69) dX4_hold_39 (by decide) h (fun _ h => ?_) (fun _ h => ?_)
      · refine gr_aload_n dX4_hold_42 rfl rfl ?_
        refine gr_aload_n dX4_hold_43 rfl rfl ?_
        obtain ⟨x4, hx4, h⟩ := gn_bd h
        refine gc_VI (c_X4_left hx4) my_X4_left mv_X4_left ob_38 ml_X4_149 rfl rfl ⟨Nat.le_of_ble_eq_true rfl, Nat.le_of_ble_eq_true rfl⟩ (Nat.le_of_ble_eq_true rfl) dX4_hold_44 (fun fx4 => ?_)
        refine gr_iconst dX4_hold_47 gk_i_1 ?_
        refine gr_iload_n dX4_hold_48 rfl rfl ?_
        refine gr_ishl dX4_hold_49 ?_
        refine gr_iconst dX4_hold_50 gk_i_m1 ?_
        refine gr_ixor dX4_hold_51 ?_
        refine gr_iand dX4_hold_52 ?_
        obtain ⟨x5, hx5, h⟩ := gn_bd h
        refine gc_VI (c_X4_mostOf hx5) my_X4_mostOf mv_X4_mostOf ob_38 ml_X4_210 rfl rfl ⟨Nat.le_of_ble_eq_true rfl, Nat.le_of_ble_eq_true rfl⟩ (Nat.le_of_ble_eq_true rfl) dX4_hold_53 (fun fx5 => ?_)
        refine gr_istore (lv' := [some (.ref 38), some (.int v1), some (.int v2), some (.int v3), some (.int x5)]) dX4_hold_56 (by decide) rfl ?_
        refine gr_iload dX4_hold_58 rfl ?_
        refine gr_iload_n dX4_hold_60 rfl rfl ?_
        refine gr_icmp_ge (tgt := 69) dX4_hold_61 (by decide) h (fun _ h => ?_) (fun _ h => ?_)
        · refine gr_iload_n dX4_hold_64 rfl rfl ?_
          refine gr_istore_n (lv' := [some (.ref 38), some (.int v3), some (.int v2), some (.int v3), some (.int x5)]) dX4_hold_65 rfl (by decide) rfl ?_
          refine gr_iload dX4_hold_66 rfl ?_
          refine gr_istore_n (lv' := [some (.ref 38), some (.int v3), some (.int x5), some (.int v3), some (.int x5)]) dX4_hold_68 rfl (by decide) rfl ?_
          refine gr_iinc (lv' := [some (.ref 38), some (.int v3), some (.int x5), some (.int (v3 + (1 : Int32))), some (.int x5)]) dX4_hold_69 rfl gk_i_1 (by decide) rfl ?_
          refine gr_goto (tgt := 26) dX4_hold_72 (by decide) ?_
          refine gn_wkn [true, true, true, true, false] rfl ?_
          exact ih _ _ _ h
        · refine gr_iinc (lv' := [some (.ref 38), some (.int v1), some (.int v2), some (.int (v3 + (1 : Int32))), some (.int x5)]) dX4_hold_69 rfl gk_i_1 (by decide) rfl ?_
          refine gr_goto (tgt := 26) dX4_hold_72 (by decide) ?_
          refine gn_wkn [true, true, true, true, false] rfl ?_
          exact ih _ _ _ h
      · refine gr_iinc (lv' := [some (.ref 38), some (.int v1), some (.int v2), some (.int (v3 + (1 : Int32))), none]) dX4_hold_69 rfl gk_i_1 (by decide) rfl ?_
        refine gr_goto (tgt := 26) dX4_hold_72 (by decide) ?_
        exact ih _ _ _ h
    · refine gn_wkn [true, true, true, false, false] rfl ?_
      exact hk _ _ h
def f_X4_hold (n : Nat) (m : gn_M) : Option (Int32 × gn_M) := (if (m.1 38 10) = 0 then some ((-4 : Int32), m) else (f_X4_tellNames n m).bind (fun x1 => (f_X4_tellWays n x1).bind (fun x2 => L_X4_hold_26 n x2 (fun (e6 : Int32) (e7 : Int32) => (if e6 = (-9 : Int32) then some (e6, x2) else (f_X4_told x2 e7).bind (fun x8 => some (e6, x8.2)))) n (-9 : Int32) (8 : Int32) (0 : Int32))))
set_option maxRecDepth 100000 in
set_option maxHeartbeats 4000000 in
theorem c_X4_hold {n : Nat} {m : gn_M} {v : Int32 × gn_M} (h : f_X4_hold n m = some v) : gn_Cl yX4_hold cX4_hold 5 (some .int) 4 89 [.ref 38] m (some (.int v.1)) v.2 := by
  rw [f_X4_hold] at h
  refine gn_met (lv := [some (.ref 38), none, none, none, none]) pl_X4 rfl rfl (Nat.le_of_ble_eq_true rfl) ?_
  refine gr_aload_n dX4_hold_0 rfl rfl ?_
  refine gr_getI q_38_10 fl_X4_104 dX4_hold_1 ?_
  refine gr_if_ne (tgt := 10) dX4_hold_4 (by decide) h (fun _ h => ?_) (fun _ h => ?_)
  · refine gr_bipush dX4_hold_7 gk_b_m4 ?_
    exact gq_retIM dX4_hold_9 rfl h
  · refine gr_aload_n dX4_hold_10 rfl rfl ?_
    obtain ⟨x1, hx1, h⟩ := gn_bd h
    refine gc_V0 (c_X4_tellNames hx1) my_X4_tellNames mv_X4_tellNames ob_38 ml_X4_181 rfl rfl ⟨Nat.le_of_ble_eq_true rfl, Nat.le_of_ble_eq_true rfl⟩ (Nat.le_of_ble_eq_true rfl) dX4_hold_11 (fun fx1 => ?_)
    refine gr_aload_n dX4_hold_14 rfl rfl ?_
    obtain ⟨x2, hx2, h⟩ := gn_bd h
    refine gc_V0 (c_X4_tellWays hx2) my_X4_tellWays mv_X4_tellWays ob_38 ml_X4_190 rfl rfl ⟨Nat.le_of_ble_eq_true rfl, Nat.le_of_ble_eq_true rfl⟩ (Nat.le_of_ble_eq_true rfl) dX4_hold_15 (fun fx2 => ?_)
    refine gr_bipush dX4_hold_18 gk_b_m9 ?_
    refine gr_istore_n (lv' := [some (.ref 38), some (.int (-9 : Int32)), none, none, none]) dX4_hold_20 rfl (by decide) rfl ?_
    refine gr_bipush dX4_hold_21 gk_b_8 ?_
    refine gr_istore_n (lv' := [some (.ref 38), some (.int (-9 : Int32)), some (.int (8 : Int32)), none, none]) dX4_hold_23 rfl (by decide) rfl ?_
    refine gr_iconst dX4_hold_24 gk_i_0 ?_
    refine gr_istore_n (lv' := [some (.ref 38), some (.int (-9 : Int32)), some (.int (8 : Int32)), some (.int (0 : Int32)), none]) dX4_hold_25 rfl (by decide) rfl ?_
    refine l_X4_hold_26 (fun e6 e7 h => ?_) _ _ _ _ h
    refine gr_iload_n dX4_hold_75 rfl rfl ?_
    refine gr_bipush dX4_hold_76 gk_b_m9 ?_
    refine gr_icmp_eq (tgt := 87) dX4_hold_78 (by decide) h (fun _ h => ?_) (fun _ h => ?_)
    · refine gr_iload_n dX4_hold_87 rfl rfl ?_
      exact gq_retIM dX4_hold_88 rfl h
    · refine gr_aload_n dX4_hold_81 rfl rfl ?_
      refine gr_iload_n dX4_hold_82 rfl rfl ?_
      obtain ⟨x8, hx8, h⟩ := gn_bd h
      refine gc_VI (c_X4_told hx8) my_X4_told mv_X4_told ob_38 ml_X4_89 rfl rfl ⟨Nat.le_of_ble_eq_true rfl, Nat.le_of_ble_eq_true rfl⟩ (Nat.le_of_ble_eq_true rfl) dX4_hold_83 (fun fx8 => ?_)
      refine gr_pop dX4_hold_86 rfl ?_
      refine gr_iload_n dX4_hold_87 rfl rfl ?_
      exact gq_retIM dX4_hold_88 rfl h
def L_X4_last_38 (n : Nat) (m : gn_M) (a1 : Int32) (a2 : Int32) (a3 : Int32) (k : Int32 → Option (Int32)) : Nat → Int32 → Int32 → Option (Int32)
  | 0, _, _ => none
  | f + 1, v4, v5 => (if v5 < (m.1 38 10) then (if v5 = a3 then L_X4_last_38 n m a1 a2 a3 k f (v4 ||| (0 : Int32)) (v5 + (1 : Int32)) else (f_X4_isThrough m v5).bind (fun x2 => (if x2 = 0 then (f_X4_namesOf n m v5).bind (fun x3 => (f_X4_has x3 a3).bind (fun x4 => (if x4 = 0 then L_X4_last_38 n m a1 a2 a3 k f (v4 ||| (0 : Int32)) (v5 + (1 : Int32)) else L_X4_last_38 n m a1 a2 a3 k f (v4 ||| ((1 : Int32) <<< (v5 &&& 31))) (v5 + (1 : Int32))))) else L_X4_last_38 n m a1 a2 a3 k f (v4 ||| (0 : Int32)) (v5 + (1 : Int32))))) else k v4)
set_option maxRecDepth 100000 in
set_option maxHeartbeats 4000000 in
theorem l_X4_last_38 {n : Nat} {m : gn_M} {a1 : Int32} {a2 : Int32} {a3 : Int32} {k : Int32 → Option (Int32)} {v : Int32} (hk : ∀ (e4 : Int32), k e4 = some v → gn_Go RX4 cX4_last 6 3 68 (some .int) none 94 [some (.ref 38), some (.int a1), some (.int a2), some (.int a3), some (.int e4), none] [] m (some (.int v)) m) : ∀ (f : Nat) (v4 : Int32) (v5 : Int32), L_X4_last_38 n m a1 a2 a3 k f v4 v5 = some v → gn_Go RX4 cX4_last 6 3 68 (some .int) none 38 [some (.ref 38), some (.int a1), some (.int a2), some (.int a3), some (.int v4), some (.int v5)] [] m (some (.int v)) m := by
  intro f
  induction f with
  | zero =>
    intro v4 v5 h
    cases h
  | succ f ih =>
    intro v4 v5 h
    rw [L_X4_last_38] at h
    refine gr_iload dX4_last_38 rfl ?_
    refine gr_aload_n dX4_last_40 rfl rfl ?_
    refine gr_getI q_38_10 fl_X4_104 dX4_last_41 ?_
    refine gr_icmp_ge (tgt := 94) dX4_last_44 (by decide) h (fun _ h => ?_) (fun _ h => ?_)
    · refine gr_iload dX4_last_47 rfl ?_
      refine gr_iload dX4_last_49 rfl ?_
      refine gr_iload_n dX4_last_51 rfl rfl ?_
      refine gr_icmp_eq (tgt := 84) dX4_last_52 (by decide) h (fun _ h => ?_) (fun _ h => ?_)
      · refine gr_iconst dX4_last_84 gk_i_0 ?_
        refine gr_ior dX4_last_85 ?_
        refine gr_istore (lv' := [some (.ref 38), some (.int a1), some (.int a2), some (.int a3), some (.int (v4 ||| (0 : Int32))), some (.int v5)]) dX4_last_86 (by decide) rfl ?_
        refine gr_iinc (lv' := [some (.ref 38), some (.int a1), some (.int a2), some (.int a3), some (.int (v4 ||| (0 : Int32))), some (.int (v5 + (1 : Int32)))]) dX4_last_88 rfl gk_i_1 (by decide) rfl ?_
        refine gr_goto (tgt := 38) dX4_last_91 (by decide) ?_
        exact ih _ _ h
      · refine gr_aload_n dX4_last_55 rfl rfl ?_
        refine gr_iload dX4_last_56 rfl ?_
        obtain ⟨x2, hx2, h⟩ := gn_bd h
        refine gc_VI (c_X4_isThrough hx2) my_X4_isThrough mv_X4_isThrough ob_38 ml_X4_131 rfl rfl ⟨Nat.le_of_ble_eq_true rfl, Nat.le_of_ble_eq_true rfl⟩ (Nat.le_of_ble_eq_true rfl) dX4_last_58 (fun fx2 => ?_)
        refine gr_if_ne (tgt := 84) dX4_last_61 (by decide) h (fun _ h => ?_) (fun _ h => ?_)
        · refine gr_aload_n dX4_last_64 rfl rfl ?_
          refine gr_iload dX4_last_65 rfl ?_
          obtain ⟨x3, hx3, h⟩ := gn_bd h
          refine gc_VI (c_X4_namesOf hx3) my_X4_namesOf mv_X4_namesOf ob_38 ml_X4_134 rfl rfl ⟨Nat.le_of_ble_eq_true rfl, Nat.le_of_ble_eq_true rfl⟩ (Nat.le_of_ble_eq_true rfl) dX4_last_67 (fun fx3 => ?_)
          refine gr_iload_n dX4_last_70 rfl rfl ?_
          obtain ⟨x4, hx4, h⟩ := gn_bd h
          refine gc_SI (c_X4_has hx4) my_X4_has ms_X4_has ml_X4_123 rfl rfl ⟨Nat.le_of_ble_eq_true rfl, Nat.le_of_ble_eq_true rfl⟩ (Nat.le_of_ble_eq_true rfl) dX4_last_71 (fun fx4 => ?_)
          refine gr_if_eq (tgt := 84) dX4_last_74 (by decide) h (fun _ h => ?_) (fun _ h => ?_)
          · refine gr_iconst dX4_last_84 gk_i_0 ?_
            refine gr_ior dX4_last_85 ?_
            refine gr_istore (lv' := [some (.ref 38), some (.int a1), some (.int a2), some (.int a3), some (.int (v4 ||| (0 : Int32))), some (.int v5)]) dX4_last_86 (by decide) rfl ?_
            refine gr_iinc (lv' := [some (.ref 38), some (.int a1), some (.int a2), some (.int a3), some (.int (v4 ||| (0 : Int32))), some (.int (v5 + (1 : Int32)))]) dX4_last_88 rfl gk_i_1 (by decide) rfl ?_
            refine gr_goto (tgt := 38) dX4_last_91 (by decide) ?_
            exact ih _ _ h
          · refine gr_iconst dX4_last_77 gk_i_1 ?_
            refine gr_iload dX4_last_78 rfl ?_
            refine gr_ishl dX4_last_80 ?_
            refine gr_goto (tgt := 85) dX4_last_81 (by decide) ?_
            refine gr_ior dX4_last_85 ?_
            refine gr_istore (lv' := [some (.ref 38), some (.int a1), some (.int a2), some (.int a3), some (.int (v4 ||| ((1 : Int32) <<< (v5 &&& 31)))), some (.int v5)]) dX4_last_86 (by decide) rfl ?_
            refine gr_iinc (lv' := [some (.ref 38), some (.int a1), some (.int a2), some (.int a3), some (.int (v4 ||| ((1 : Int32) <<< (v5 &&& 31)))), some (.int (v5 + (1 : Int32)))]) dX4_last_88 rfl gk_i_1 (by decide) rfl ?_
            refine gr_goto (tgt := 38) dX4_last_91 (by decide) ?_
            exact ih _ _ h
        · refine gr_iconst dX4_last_84 gk_i_0 ?_
          refine gr_ior dX4_last_85 ?_
          refine gr_istore (lv' := [some (.ref 38), some (.int a1), some (.int a2), some (.int a3), some (.int (v4 ||| (0 : Int32))), some (.int v5)]) dX4_last_86 (by decide) rfl ?_
          refine gr_iinc (lv' := [some (.ref 38), some (.int a1), some (.int a2), some (.int a3), some (.int (v4 ||| (0 : Int32))), some (.int (v5 + (1 : Int32)))]) dX4_last_88 rfl gk_i_1 (by decide) rfl ?_
          refine gr_goto (tgt := 38) dX4_last_91 (by decide) ?_
          exact ih _ _ h
    · refine gn_wkn [true, true, true, true, true, false] rfl ?_
      exact hk _ h
def L_X4_last_24 (n : Nat) (m : gn_M) (a1 : Int32) (k : Int32 → Option (Int32)) : Nat → Int32 → Int32 → Option (Int32)
  | 0, _, _ => none
  | f + 1, v2, v3 => (if v3 < (m.1 38 10) then L_X4_last_38 n m a1 v2 v3 (fun (e5 : Int32) => (if e5 = a1 then L_X4_last_24 n m a1 k f (v2 ||| ((1 : Int32) <<< (v3 &&& 31))) (v3 + (1 : Int32)) else L_X4_last_24 n m a1 k f (v2 ||| (0 : Int32)) (v3 + (1 : Int32)))) n (0 : Int32) (0 : Int32) else k v2)
set_option maxRecDepth 100000 in
set_option maxHeartbeats 4000000 in
theorem l_X4_last_24 {n : Nat} {m : gn_M} {a1 : Int32} {k : Int32 → Option (Int32)} {v : Int32} (hk : ∀ (e2 : Int32), k e2 = some v → gn_Go RX4 cX4_last 6 3 68 (some .int) none 116 [none, none, some (.int e2), none, none, none] [] m (some (.int v)) m) : ∀ (f : Nat) (v2 : Int32) (v3 : Int32), L_X4_last_24 n m a1 k f v2 v3 = some v → gn_Go RX4 cX4_last 6 3 68 (some .int) none 24 [some (.ref 38), some (.int a1), some (.int v2), some (.int v3), none, none] [] m (some (.int v)) m := by
  intro f
  induction f with
  | zero =>
    intro v2 v3 h
    cases h
  | succ f ih =>
    intro v2 v3 h
    rw [L_X4_last_24] at h
    refine gr_iload_n dX4_last_24 rfl rfl ?_
    refine gr_aload_n dX4_last_25 rfl rfl ?_
    refine gr_getI q_38_10 fl_X4_104 dX4_last_26 ?_
    refine gr_icmp_ge (tgt := 116) dX4_last_29 (by decide) h (fun _ h => ?_) (fun _ h => ?_)
    · refine gr_iconst dX4_last_32 gk_i_0 ?_
      refine gr_istore (lv' := [some (.ref 38), some (.int a1), some (.int v2), some (.int v3), some (.int (0 : Int32)), none]) dX4_last_33 (by decide) rfl ?_
      refine gr_iconst dX4_last_35 gk_i_0 ?_
      refine gr_istore (lv' := [some (.ref 38), some (.int a1), some (.int v2), some (.int v3), some (.int (0 : Int32)), some (.int (0 : Int32))]) dX4_last_36 (by decide) rfl ?_
      refine l_X4_last_38 (fun e5 h => ?_) _ _ _ h
      refine gr_iload_n dX4_last_94 rfl rfl ?_
      refine gr_iload dX4_last_95 rfl ?_
      refine gr_iload_n dX4_last_97 rfl rfl ?_
      refine gr_icmp_ne (tgt := 107) dX4_last_98 (by decide) h (fun _ h => ?_) (fun _ h => ?_)
      · refine gr_iconst dX4_last_101 gk_i_1 ?_
        refine gr_iload_n dX4_last_102 rfl rfl ?_
        refine gr_ishl dX4_last_103 ?_
        refine gr_goto (tgt := 108) dX4_last_104 (by decide) ?_
        refine gr_ior dX4_last_108 ?_
        refine gr_istore_n (lv' := [some (.ref 38), some (.int a1), some (.int (v2 ||| ((1 : Int32) <<< (v3 &&& 31)))), some (.int v3), some (.int e5), none]) dX4_last_109 rfl (by decide) rfl ?_
        refine gr_iinc (lv' := [some (.ref 38), some (.int a1), some (.int (v2 ||| ((1 : Int32) <<< (v3 &&& 31)))), some (.int (v3 + (1 : Int32))), some (.int e5), none]) dX4_last_110 rfl gk_i_1 (by decide) rfl ?_
        refine gr_goto (tgt := 24) dX4_last_113 (by decide) ?_
        refine gn_wkn [true, true, true, true, false, false] rfl ?_
        exact ih _ _ h
      · refine gr_iconst dX4_last_107 gk_i_0 ?_
        refine gr_ior dX4_last_108 ?_
        refine gr_istore_n (lv' := [some (.ref 38), some (.int a1), some (.int (v2 ||| (0 : Int32))), some (.int v3), some (.int e5), none]) dX4_last_109 rfl (by decide) rfl ?_
        refine gr_iinc (lv' := [some (.ref 38), some (.int a1), some (.int (v2 ||| (0 : Int32))), some (.int (v3 + (1 : Int32))), some (.int e5), none]) dX4_last_110 rfl gk_i_1 (by decide) rfl ?_
        refine gr_goto (tgt := 24) dX4_last_113 (by decide) ?_
        refine gn_wkn [true, true, true, true, false, false] rfl ?_
        exact ih _ _ h
    · refine gn_wkn [false, false, true, false, false, false] rfl ?_
      exact hk _ h
def f_X4_last (n : Nat) (m : gn_M) (p0 : Int32) : Option (Int32) := (f_X4_isSet m p0).bind (fun x1 => (if x1 = 0 then some (-1 : Int32) else (if (m.1 38 10) = 0 then some (-4 : Int32) else L_X4_last_24 n m p0 (fun (e6 : Int32) => some e6) n (0 : Int32) (0 : Int32))))
set_option maxRecDepth 100000 in
set_option maxHeartbeats 4000000 in
theorem c_X4_last {n : Nat} {m : gn_M} {p0 : Int32} {v : Int32} (h : f_X4_last n m p0 = some v) : gn_Cl yX4_last cX4_last 6 (some .int) 3 68 [.ref 38, .int p0] m (some (.int v)) m := by
  rw [f_X4_last] at h
  refine gn_met (lv := [some (.ref 38), some (.int p0), none, none, none, none]) pl_X4 rfl rfl (Nat.le_of_ble_eq_true rfl) ?_
  refine gr_aload_n dX4_last_0 rfl rfl ?_
  refine gr_iload_n dX4_last_1 rfl rfl ?_
  obtain ⟨x1, hx1, h⟩ := gn_bd h
  refine gc_VI (c_X4_isSet hx1) my_X4_isSet mv_X4_isSet ob_38 ml_X4_156 rfl rfl ⟨Nat.le_of_ble_eq_true rfl, Nat.le_of_ble_eq_true rfl⟩ (Nat.le_of_ble_eq_true rfl) dX4_last_2 (fun fx1 => ?_)
  refine gr_if_ne (tgt := 10) dX4_last_5 (by decide) h (fun _ h => ?_) (fun _ h => ?_)
  · refine gr_iconst dX4_last_8 gk_i_m1 ?_
    exact gq_retI dX4_last_9 rfl h
  · refine gr_aload_n dX4_last_10 rfl rfl ?_
    refine gr_getI q_38_10 fl_X4_104 dX4_last_11 ?_
    refine gr_if_ne (tgt := 20) dX4_last_14 (by decide) h (fun _ h => ?_) (fun _ h => ?_)
    · refine gr_bipush dX4_last_17 gk_b_m4 ?_
      exact gq_retI dX4_last_19 rfl h
    · refine gr_iconst dX4_last_20 gk_i_0 ?_
      refine gr_istore_n (lv' := [some (.ref 38), some (.int p0), some (.int (0 : Int32)), none, none, none]) dX4_last_21 rfl (by decide) rfl ?_
      refine gr_iconst dX4_last_22 gk_i_0 ?_
      refine gr_istore_n (lv' := [some (.ref 38), some (.int p0), some (.int (0 : Int32)), some (.int (0 : Int32)), none, none]) dX4_last_23 rfl (by decide) rfl ?_
      refine l_X4_last_24 (fun e6 h => ?_) _ _ _ h
      refine gr_iload_n dX4_last_116 rfl rfl ?_
      exact gq_retI dX4_last_117 rfl h
def L_X4_pairs_37 (n : Nat) (m : gn_M) (a1 : Int32) (k : Int32 → Option (Int32 × gn_M)) : Nat → Int32 → Int32 → Option (Int32 × gn_M)
  | 0, _, _ => none
  | f + 1, v2, v3 => gn_rd m 40 6 a1 (fun x5 => (if v3 < x5 then (if v2 = 0 then L_X4_pairs_37 n m a1 k f (0 : Int32) (v3 + (1 : Int32)) else gn_rd m 41 240 (((40 : Int32) * a1) + v3) (fun x6 => (f_X4_isSet m x6).bind (fun x7 => (if x7 = 0 then L_X4_pairs_37 n m a1 k f (0 : Int32) (v3 + (1 : Int32)) else L_X4_pairs_37 n m a1 k f (1 : Int32) (v3 + (1 : Int32)))))) else k v2))
set_option maxRecDepth 100000 in
set_option maxHeartbeats 4000000 in
theorem l_X4_pairs_37 {n : Nat} {m : gn_M} {a1 : Int32} {k : Int32 → Option (Int32 × gn_M)} {v : Int32 × gn_M} (hk : ∀ (e2 : Int32), k e2 = some v → gn_Go RX4 cX4_pairs 4 2 43 (some .int) none 81 [some (.ref 38), none, some (.int e2), none] [] m (some (.int v.1)) v.2) : ∀ (f : Nat) (v2 : Int32) (v3 : Int32), L_X4_pairs_37 n m a1 k f v2 v3 = some v → gn_Go RX4 cX4_pairs 4 2 43 (some .int) none 37 [some (.ref 38), some (.int a1), some (.int v2), some (.int v3)] [] m (some (.int v.1)) v.2 := by
  intro f
  induction f with
  | zero =>
    intro v2 v3 h
    cases h
  | succ f ih =>
    intro v2 v3 h
    rw [L_X4_pairs_37] at h
    refine gr_iload_n dX4_pairs_37 rfl rfl ?_
    refine gr_aload_n dX4_pairs_38 rfl rfl ?_
    refine gr_getR q_38_5 fl_X4_17 dX4_pairs_39 ?_
    refine gr_iload_n dX4_pairs_42 rfl rfl ?_
    refine gq_iaload s_40 dX4_pairs_43 h (fun x5 h => ?_)
    refine gr_icmp_ge (tgt := 81) dX4_pairs_44 (by decide) h (fun _ h => ?_) (fun _ h => ?_)
    · refine gr_iload_n dX4_pairs_47 rfl rfl ?_
      refine gr_if_eq (tgt := 73) dX4_pairs_48 (by decide) h (fun _ h => ?_) (fun _ h => ?_)
      · refine gr_iconst dX4_pairs_73 gk_i_0 ?_
        refine gr_istore_n (lv' := [some (.ref 38), some (.int a1), some (.int (0 : Int32)), some (.int v3)]) dX4_pairs_74 rfl (by decide) rfl ?_
        refine gr_iinc (lv' := [some (.ref 38), some (.int a1), some (.int (0 : Int32)), some (.int (v3 + (1 : Int32)))]) dX4_pairs_75 rfl gk_i_1 (by decide) rfl ?_
        refine gr_goto (tgt := 37) dX4_pairs_78 (by decide) ?_
        exact ih _ _ h
      · refine gr_aload_n dX4_pairs_51 rfl rfl ?_
        refine gr_aload_n dX4_pairs_52 rfl rfl ?_
        refine gr_getR q_38_6 fl_X4_20 dX4_pairs_53 ?_
        refine gr_bipush dX4_pairs_56 gk_b_40 ?_
        refine gr_iload_n dX4_pairs_58 rfl rfl ?_
        refine gr_imul dX4_pairs_59 ?_
        refine gr_iload_n dX4_pairs_60 rfl rfl ?_
        refine gr_iadd dX4_pairs_61 ?_
        refine gq_iaload s_41 dX4_pairs_62 h (fun x6 h => ?_)
        obtain ⟨x7, hx7, h⟩ := gn_bd h
        refine gc_VI (c_X4_isSet hx7) my_X4_isSet mv_X4_isSet ob_38 ml_X4_156 rfl rfl ⟨Nat.le_of_ble_eq_true rfl, Nat.le_of_ble_eq_true rfl⟩ (Nat.le_of_ble_eq_true rfl) dX4_pairs_63 (fun fx7 => ?_)
        refine gr_if_eq (tgt := 73) dX4_pairs_66 (by decide) h (fun _ h => ?_) (fun _ h => ?_)
        · refine gr_iconst dX4_pairs_73 gk_i_0 ?_
          refine gr_istore_n (lv' := [some (.ref 38), some (.int a1), some (.int (0 : Int32)), some (.int v3)]) dX4_pairs_74 rfl (by decide) rfl ?_
          refine gr_iinc (lv' := [some (.ref 38), some (.int a1), some (.int (0 : Int32)), some (.int (v3 + (1 : Int32)))]) dX4_pairs_75 rfl gk_i_1 (by decide) rfl ?_
          refine gr_goto (tgt := 37) dX4_pairs_78 (by decide) ?_
          exact ih _ _ h
        · refine gr_iconst dX4_pairs_69 gk_i_1 ?_
          refine gr_goto (tgt := 74) dX4_pairs_70 (by decide) ?_
          refine gr_istore_n (lv' := [some (.ref 38), some (.int a1), some (.int (1 : Int32)), some (.int v3)]) dX4_pairs_74 rfl (by decide) rfl ?_
          refine gr_iinc (lv' := [some (.ref 38), some (.int a1), some (.int (1 : Int32)), some (.int (v3 + (1 : Int32)))]) dX4_pairs_75 rfl gk_i_1 (by decide) rfl ?_
          refine gr_goto (tgt := 37) dX4_pairs_78 (by decide) ?_
          exact ih _ _ h
    · refine gn_wkn [true, false, true, false] rfl ?_
      exact hk _ h
def f_X4_pairs (n : Nat) (m : gn_M) (p0 : Int32) : Option (Int32 × gn_M) := gn_rd m 40 6 p0 (fun x1 => (if x1 < 0 then (f_X4_find m (1 : Int32)).bind (fun x2 => some (x2.1, x2.2)) else gn_rd m 40 6 p0 (fun x3 => (if (x3 - x3 / (2 : Int32) * (2 : Int32)) = (1 : Int32) then (f_X4_find m (5 : Int32)).bind (fun x4 => some (x4.1, x4.2)) else L_X4_pairs_37 n m p0 (fun (e8 : Int32) => (if e8 = 0 then (f_X4_find m (3 : Int32)).bind (fun x9 => some (x9.1, x9.2)) else some ((0 : Int32), m))) n (1 : Int32) (0 : Int32)))))
set_option maxRecDepth 100000 in
set_option maxHeartbeats 4000000 in
theorem c_X4_pairs {n : Nat} {m : gn_M} {p0 : Int32} {v : Int32 × gn_M} (h : f_X4_pairs n m p0 = some v) : gn_Cl yX4_pairs cX4_pairs 4 (some .int) 2 43 [.ref 38, .int p0] m (some (.int v.1)) v.2 := by
  rw [f_X4_pairs] at h
  refine gn_met (lv := [some (.ref 38), some (.int p0), none, none]) pl_X4 rfl rfl (Nat.le_of_ble_eq_true rfl) ?_
  refine gr_aload_n dX4_pairs_0 rfl rfl ?_
  refine gr_getR q_38_5 fl_X4_17 dX4_pairs_1 ?_
  refine gr_iload_n dX4_pairs_4 rfl rfl ?_
  refine gq_iaload s_40 dX4_pairs_5 h (fun x1 h => ?_)
  refine gr_if_ge (tgt := 15) dX4_pairs_6 (by decide) h (fun _ h => ?_) (fun _ h => ?_)
  · refine gr_aload_n dX4_pairs_9 rfl rfl ?_
    refine gr_iconst dX4_pairs_10 gk_i_1 ?_
    obtain ⟨x2, hx2, h⟩ := gn_bd h
    refine gc_VI (c_X4_find hx2) my_X4_find mv_X4_find ob_38 ml_X4_85 rfl rfl ⟨Nat.le_of_ble_eq_true rfl, Nat.le_of_ble_eq_true rfl⟩ (Nat.le_of_ble_eq_true rfl) dX4_pairs_11 (fun fx2 => ?_)
    exact gq_retIM dX4_pairs_14 rfl h
  · refine gr_aload_n dX4_pairs_15 rfl rfl ?_
    refine gr_getR q_38_5 fl_X4_17 dX4_pairs_16 ?_
    refine gr_iload_n dX4_pairs_19 rfl rfl ?_
    refine gq_iaload s_40 dX4_pairs_20 h (fun x3 h => ?_)
    refine gr_iconst dX4_pairs_21 gk_i_2 ?_
    refine gr_irem dX4_pairs_22 (by decide) ?_
    refine gr_iconst dX4_pairs_23 gk_i_1 ?_
    refine gr_icmp_ne (tgt := 33) dX4_pairs_24 (by decide) h (fun _ h => ?_) (fun _ h => ?_)
    · refine gr_aload_n dX4_pairs_27 rfl rfl ?_
      refine gr_iconst dX4_pairs_28 gk_i_5 ?_
      obtain ⟨x4, hx4, h⟩ := gn_bd h
      refine gc_VI (c_X4_find hx4) my_X4_find mv_X4_find ob_38 ml_X4_85 rfl rfl ⟨Nat.le_of_ble_eq_true rfl, Nat.le_of_ble_eq_true rfl⟩ (Nat.le_of_ble_eq_true rfl) dX4_pairs_29 (fun fx4 => ?_)
      exact gq_retIM dX4_pairs_32 rfl h
    · refine gr_iconst dX4_pairs_33 gk_i_1 ?_
      refine gr_istore_n (lv' := [some (.ref 38), some (.int p0), some (.int (1 : Int32)), none]) dX4_pairs_34 rfl (by decide) rfl ?_
      refine gr_iconst dX4_pairs_35 gk_i_0 ?_
      refine gr_istore_n (lv' := [some (.ref 38), some (.int p0), some (.int (1 : Int32)), some (.int (0 : Int32))]) dX4_pairs_36 rfl (by decide) rfl ?_
      refine l_X4_pairs_37 (fun e8 h => ?_) _ _ _ h
      refine gr_iload_n dX4_pairs_81 rfl rfl ?_
      refine gr_if_eq (tgt := 89) dX4_pairs_82 (by decide) h (fun _ h => ?_) (fun _ h => ?_)
      · refine gr_aload_n dX4_pairs_89 rfl rfl ?_
        refine gr_iconst dX4_pairs_90 gk_i_3 ?_
        obtain ⟨x9, hx9, h⟩ := gn_bd h
        refine gc_VI (c_X4_find hx9) my_X4_find mv_X4_find ob_38 ml_X4_85 rfl rfl ⟨Nat.le_of_ble_eq_true rfl, Nat.le_of_ble_eq_true rfl⟩ (Nat.le_of_ble_eq_true rfl) dX4_pairs_91 (fun fx9 => ?_)
        exact gq_retIM dX4_pairs_94 rfl h
      · refine gr_iconst dX4_pairs_85 gk_i_0 ?_
        refine gr_goto (tgt := 94) dX4_pairs_86 (by decide) ?_
        exact gq_retIM dX4_pairs_94 rfl h
def L_X4_kindsBy_17 (n : Nat) (m : gn_M) (a1 : Int32) (a2 : Int32) (a3 : Int32) (a4 : Int32) (k : Int32 → Option (Int32)) : Nat → Int32 → Int32 → Option (Int32)
  | 0, _, _ => none
  | f + 1, v5, v6 => gn_rd m 40 6 a2 (fun x1 => (if v6 < x1 then (if v5 = 0 then L_X4_kindsBy_17 n m a1 a2 a3 a4 k f (0 : Int32) (v6 + (2 : Int32)) else gn_rd m 41 240 (((40 : Int32) * a2) + v6) (fun x2 => (f_X4_tellsBy a1 a4 x2).bind (fun x3 => gn_rd m 41 240 ((((40 : Int32) * a2) + v6) + (1 : Int32)) (fun x4 => (if x3 = x4 then L_X4_kindsBy_17 n m a1 a2 a3 a4 k f (1 : Int32) (v6 + (2 : Int32)) else L_X4_kindsBy_17 n m a1 a2 a3 a4 k f (0 : Int32) (v6 + (2 : Int32))))))) else k v5))
set_option maxRecDepth 100000 in
set_option maxHeartbeats 4000000 in
theorem l_X4_kindsBy_17 {n : Nat} {m : gn_M} {a1 : Int32} {a2 : Int32} {a3 : Int32} {a4 : Int32} {k : Int32 → Option (Int32)} {v : Int32} (hk : ∀ (e5 : Int32), k e5 = some v → gn_Go RX4 cX4_kindsBy 7 1 23 (some .int) none 81 [some (.ref 38), some (.int a1), some (.int a2), some (.int a3), some (.int a4), some (.int e5), none] [] m (some (.int v)) m) : ∀ (f : Nat) (v5 : Int32) (v6 : Int32), L_X4_kindsBy_17 n m a1 a2 a3 a4 k f v5 v6 = some v → gn_Go RX4 cX4_kindsBy 7 1 23 (some .int) none 17 [some (.ref 38), some (.int a1), some (.int a2), some (.int a3), some (.int a4), some (.int v5), some (.int v6)] [] m (some (.int v)) m := by
  intro f
  induction f with
  | zero =>
    intro v5 v6 h
    cases h
  | succ f ih =>
    intro v5 v6 h
    rw [L_X4_kindsBy_17] at h
    refine gr_iload dX4_kindsBy_17 rfl ?_
    refine gr_aload_n dX4_kindsBy_19 rfl rfl ?_
    refine gr_getR q_38_5 fl_X4_17 dX4_kindsBy_20 ?_
    refine gr_iload_n dX4_kindsBy_23 rfl rfl ?_
    refine gq_iaload s_40 dX4_kindsBy_24 h (fun x1 h => ?_)
    refine gr_icmp_ge (tgt := 81) dX4_kindsBy_25 (by decide) h (fun _ h => ?_) (fun _ h => ?_)
    · refine gr_iload dX4_kindsBy_28 rfl ?_
      refine gr_if_eq (tgt := 72) dX4_kindsBy_30 (by decide) h (fun _ h => ?_) (fun _ h => ?_)
      · refine gr_iconst dX4_kindsBy_72 gk_i_0 ?_
        refine gr_istore (lv' := [some (.ref 38), some (.int a1), some (.int a2), some (.int a3), some (.int a4), some (.int (0 : Int32)), some (.int v6)]) dX4_kindsBy_73 (by decide) rfl ?_
        refine gr_iinc (lv' := [some (.ref 38), some (.int a1), some (.int a2), some (.int a3), some (.int a4), some (.int (0 : Int32)), some (.int (v6 + (2 : Int32)))]) dX4_kindsBy_75 rfl gk_i_2 (by decide) rfl ?_
        refine gr_goto (tgt := 17) dX4_kindsBy_78 (by decide) ?_
        exact ih _ _ h
      · refine gr_iload_n dX4_kindsBy_33 rfl rfl ?_
        refine gr_iload dX4_kindsBy_34 rfl ?_
        refine gr_aload_n dX4_kindsBy_36 rfl rfl ?_
        refine gr_getR q_38_6 fl_X4_20 dX4_kindsBy_37 ?_
        refine gr_bipush dX4_kindsBy_40 gk_b_40 ?_
        refine gr_iload_n dX4_kindsBy_42 rfl rfl ?_
        refine gr_imul dX4_kindsBy_43 ?_
        refine gr_iload dX4_kindsBy_44 rfl ?_
        refine gr_iadd dX4_kindsBy_46 ?_
        refine gq_iaload s_41 dX4_kindsBy_47 h (fun x2 h => ?_)
        obtain ⟨x3, hx3, h⟩ := gn_bd h
        refine gc_SI (c_X4_tellsBy hx3) my_X4_tellsBy ms_X4_tellsBy ml_X4_116 rfl rfl ⟨Nat.le_of_ble_eq_true rfl, Nat.le_of_ble_eq_true rfl⟩ (Nat.le_of_ble_eq_true rfl) dX4_kindsBy_48 (fun fx3 => ?_)
        refine gr_aload_n dX4_kindsBy_51 rfl rfl ?_
        refine gr_getR q_38_6 fl_X4_20 dX4_kindsBy_52 ?_
        refine gr_bipush dX4_kindsBy_55 gk_b_40 ?_
        refine gr_iload_n dX4_kindsBy_57 rfl rfl ?_
        refine gr_imul dX4_kindsBy_58 ?_
        refine gr_iload dX4_kindsBy_59 rfl ?_
        refine gr_iadd dX4_kindsBy_61 ?_
        refine gr_iconst dX4_kindsBy_62 gk_i_1 ?_
        refine gr_iadd dX4_kindsBy_63 ?_
        refine gq_iaload s_41 dX4_kindsBy_64 h (fun x4 h => ?_)
        refine gr_icmp_ne (tgt := 72) dX4_kindsBy_65 (by decide) h (fun _ h => ?_) (fun _ h => ?_)
        · refine gr_iconst dX4_kindsBy_68 gk_i_1 ?_
          refine gr_goto (tgt := 73) dX4_kindsBy_69 (by decide) ?_
          refine gr_istore (lv' := [some (.ref 38), some (.int a1), some (.int a2), some (.int a3), some (.int a4), some (.int (1 : Int32)), some (.int v6)]) dX4_kindsBy_73 (by decide) rfl ?_
          refine gr_iinc (lv' := [some (.ref 38), some (.int a1), some (.int a2), some (.int a3), some (.int a4), some (.int (1 : Int32)), some (.int (v6 + (2 : Int32)))]) dX4_kindsBy_75 rfl gk_i_2 (by decide) rfl ?_
          refine gr_goto (tgt := 17) dX4_kindsBy_78 (by decide) ?_
          exact ih _ _ h
        · refine gr_iconst dX4_kindsBy_72 gk_i_0 ?_
          refine gr_istore (lv' := [some (.ref 38), some (.int a1), some (.int a2), some (.int a3), some (.int a4), some (.int (0 : Int32)), some (.int v6)]) dX4_kindsBy_73 (by decide) rfl ?_
          refine gr_iinc (lv' := [some (.ref 38), some (.int a1), some (.int a2), some (.int a3), some (.int a4), some (.int (0 : Int32)), some (.int (v6 + (2 : Int32)))]) dX4_kindsBy_75 rfl gk_i_2 (by decide) rfl ?_
          refine gr_goto (tgt := 17) dX4_kindsBy_78 (by decide) ?_
          exact ih _ _ h
    · refine gn_wkn [true, true, true, true, true, true, false] rfl ?_
      exact hk _ h
def L_X4_kindsBy_5 (n : Nat) (m : gn_M) (a1 : Int32) (a2 : Int32) (k : Int32 → Option (Int32)) : Nat → Int32 → Int32 → Option (Int32)
  | 0, _, _ => none
  | f + 1, v3, v4 => (if (5 : Int32) < v4 then k v3 else L_X4_kindsBy_17 n m a1 a2 v3 v4 (fun (e5 : Int32) => (if e5 = 0 then L_X4_kindsBy_5 n m a1 a2 k f (v3 ||| (0 : Int32)) (v4 + (1 : Int32)) else L_X4_kindsBy_5 n m a1 a2 k f (v3 ||| ((1 : Int32) <<< (v4 &&& 31))) (v4 + (1 : Int32)))) n (1 : Int32) (0 : Int32))
set_option maxRecDepth 100000 in
set_option maxHeartbeats 4000000 in
theorem l_X4_kindsBy_5 {n : Nat} {m : gn_M} {a1 : Int32} {a2 : Int32} {k : Int32 → Option (Int32)} {v : Int32} (hk : ∀ (e3 : Int32), k e3 = some v → gn_Go RX4 cX4_kindsBy 7 1 23 (some .int) none 103 [none, none, none, some (.int e3), none, none, none] [] m (some (.int v)) m) : ∀ (f : Nat) (v3 : Int32) (v4 : Int32), L_X4_kindsBy_5 n m a1 a2 k f v3 v4 = some v → gn_Go RX4 cX4_kindsBy 7 1 23 (some .int) none 5 [some (.ref 38), some (.int a1), some (.int a2), some (.int v3), some (.int v4), none, none] [] m (some (.int v)) m := by
  intro f
  induction f with
  | zero =>
    intro v3 v4 h
    cases h
  | succ f ih =>
    intro v3 v4 h
    rw [L_X4_kindsBy_5] at h
    refine gr_iload dX4_kindsBy_5 rfl ?_
    refine gr_iconst dX4_kindsBy_7 gk_i_5 ?_
    refine gr_icmp_gt (tgt := 103) dX4_kindsBy_8 (by decide) h (fun _ h => ?_) (fun _ h => ?_)
    · refine gn_wkn [false, false, false, true, false, false, false] rfl ?_
      exact hk _ h
    · refine gr_iconst dX4_kindsBy_11 gk_i_1 ?_
      refine gr_istore (lv' := [some (.ref 38), some (.int a1), some (.int a2), some (.int v3), some (.int v4), some (.int (1 : Int32)), none]) dX4_kindsBy_12 (by decide) rfl ?_
      refine gr_iconst dX4_kindsBy_14 gk_i_0 ?_
      refine gr_istore (lv' := [some (.ref 38), some (.int a1), some (.int a2), some (.int v3), some (.int v4), some (.int (1 : Int32)), some (.int (0 : Int32))]) dX4_kindsBy_15 (by decide) rfl ?_
      refine l_X4_kindsBy_17 (fun e5 h => ?_) _ _ _ h
      refine gr_iload_n dX4_kindsBy_81 rfl rfl ?_
      refine gr_iload dX4_kindsBy_82 rfl ?_
      refine gr_if_eq (tgt := 94) dX4_kindsBy_84 (by decide) h (fun _ h => ?_) (fun _ h => ?_)
      · refine gr_iconst dX4_kindsBy_94 gk_i_0 ?_
        refine gr_ior dX4_kindsBy_95 ?_
        refine gr_istore_n (lv' := [some (.ref 38), some (.int a1), some (.int a2), some (.int (v3 ||| (0 : Int32))), some (.int v4), some (.int e5), none]) dX4_kindsBy_96 rfl (by decide) rfl ?_
        refine gr_iinc (lv' := [some (.ref 38), some (.int a1), some (.int a2), some (.int (v3 ||| (0 : Int32))), some (.int (v4 + (1 : Int32))), some (.int e5), none]) dX4_kindsBy_97 rfl gk_i_1 (by decide) rfl ?_
        refine gr_goto (tgt := 5) dX4_kindsBy_100 (by decide) ?_
        refine gn_wkn [true, true, true, true, true, false, false] rfl ?_
        exact ih _ _ h
      · refine gr_iconst dX4_kindsBy_87 gk_i_1 ?_
        refine gr_iload dX4_kindsBy_88 rfl ?_
        refine gr_ishl dX4_kindsBy_90 ?_
        refine gr_goto (tgt := 95) dX4_kindsBy_91 (by decide) ?_
        refine gr_ior dX4_kindsBy_95 ?_
        refine gr_istore_n (lv' := [some (.ref 38), some (.int a1), some (.int a2), some (.int (v3 ||| ((1 : Int32) <<< (v4 &&& 31)))), some (.int v4), some (.int e5), none]) dX4_kindsBy_96 rfl (by decide) rfl ?_
        refine gr_iinc (lv' := [some (.ref 38), some (.int a1), some (.int a2), some (.int (v3 ||| ((1 : Int32) <<< (v4 &&& 31)))), some (.int (v4 + (1 : Int32))), some (.int e5), none]) dX4_kindsBy_97 rfl gk_i_1 (by decide) rfl ?_
        refine gr_goto (tgt := 5) dX4_kindsBy_100 (by decide) ?_
        refine gn_wkn [true, true, true, true, true, false, false] rfl ?_
        exact ih _ _ h
def f_X4_kindsBy (n : Nat) (m : gn_M) (p0 : Int32) (p1 : Int32) : Option (Int32) := L_X4_kindsBy_5 n m p0 p1 (fun (e6 : Int32) => some e6) n (0 : Int32) (0 : Int32)
set_option maxRecDepth 100000 in
set_option maxHeartbeats 4000000 in
theorem c_X4_kindsBy {n : Nat} {m : gn_M} {p0 : Int32} {p1 : Int32} {v : Int32} (h : f_X4_kindsBy n m p0 p1 = some v) : gn_Cl yX4_kindsBy cX4_kindsBy 7 (some .int) 1 23 [.ref 38, .int p0, .int p1] m (some (.int v)) m := by
  rw [f_X4_kindsBy] at h
  refine gn_met (lv := [some (.ref 38), some (.int p0), some (.int p1), none, none, none, none]) pl_X4 rfl rfl (Nat.le_of_ble_eq_true rfl) ?_
  refine gr_iconst dX4_kindsBy_0 gk_i_0 ?_
  refine gr_istore_n (lv' := [some (.ref 38), some (.int p0), some (.int p1), some (.int (0 : Int32)), none, none, none]) dX4_kindsBy_1 rfl (by decide) rfl ?_
  refine gr_iconst dX4_kindsBy_2 gk_i_0 ?_
  refine gr_istore (lv' := [some (.ref 38), some (.int p0), some (.int p1), some (.int (0 : Int32)), some (.int (0 : Int32)), none, none]) dX4_kindsBy_3 (by decide) rfl ?_
  refine l_X4_kindsBy_5 (fun e6 h => ?_) _ _ _ h
  refine gr_iload_n dX4_kindsBy_103 rfl rfl ?_
  exact gq_retI dX4_kindsBy_104 rfl h
def f_X4_kinds (n : Nat) (m : gn_M) (p0 : Int32) (p1 : Int32) : Option (Int32 × gn_M) := (f_X4_isGoer m p0).bind (fun x1 => (if x1 = 0 then some ((-1 : Int32), m) else (f_X4_isRow p1).bind (fun x2 => (if x2 = 0 then some ((-1 : Int32), m) else (f_X4_pairs n m p1).bind (fun x3 => (if x3.1 = 0 then (f_X4_kindsBy n x3.2 p0 p1).bind (fun x4 => some (x4, x3.2)) else some (x3.1, x3.2)))))))
set_option maxRecDepth 100000 in
set_option maxHeartbeats 4000000 in
theorem c_X4_kinds {n : Nat} {m : gn_M} {p0 : Int32} {p1 : Int32} {v : Int32 × gn_M} (h : f_X4_kinds n m p0 p1 = some v) : gn_Cl yX4_kinds cX4_kinds 4 (some .int) 3 66 [.ref 38, .int p0, .int p1] m (some (.int v.1)) v.2 := by
  rw [f_X4_kinds] at h
  refine gn_met (lv := [some (.ref 38), some (.int p0), some (.int p1), none]) pl_X4 rfl rfl (Nat.le_of_ble_eq_true rfl) ?_
  refine gr_aload_n dX4_kinds_0 rfl rfl ?_
  refine gr_iload_n dX4_kinds_1 rfl rfl ?_
  obtain ⟨x1, hx1, h⟩ := gn_bd h
  refine gc_VI (c_X4_isGoer hx1) my_X4_isGoer mv_X4_isGoer ob_38 ml_X4_143 rfl rfl ⟨Nat.le_of_ble_eq_true rfl, Nat.le_of_ble_eq_true rfl⟩ (Nat.le_of_ble_eq_true rfl) dX4_kinds_2 (fun fx1 => ?_)
  refine gr_if_eq (tgt := 15) dX4_kinds_5 (by decide) h (fun _ h => ?_) (fun _ h => ?_)
  · refine gr_iconst dX4_kinds_15 gk_i_m1 ?_
    exact gq_retIM dX4_kinds_16 rfl h
  · refine gr_iload_n dX4_kinds_8 rfl rfl ?_
    obtain ⟨x2, hx2, h⟩ := gn_bd h
    refine gc_SI (c_X4_isRow hx2) my_X4_isRow ms_X4_isRow ml_X4_81 rfl rfl ⟨Nat.le_of_ble_eq_true rfl, Nat.le_of_ble_eq_true rfl⟩ (Nat.le_of_ble_eq_true rfl) dX4_kinds_9 (fun fx2 => ?_)
    refine gr_if_ne (tgt := 17) dX4_kinds_12 (by decide) h (fun _ h => ?_) (fun _ h => ?_)
    · refine gr_iconst dX4_kinds_15 gk_i_m1 ?_
      exact gq_retIM dX4_kinds_16 rfl h
    · refine gr_aload_n dX4_kinds_17 rfl rfl ?_
      refine gr_iload_n dX4_kinds_18 rfl rfl ?_
      obtain ⟨x3, hx3, h⟩ := gn_bd h
      refine gc_VI (c_X4_pairs hx3) my_X4_pairs mv_X4_pairs ob_38 ml_X4_213 rfl rfl ⟨Nat.le_of_ble_eq_true rfl, Nat.le_of_ble_eq_true rfl⟩ (Nat.le_of_ble_eq_true rfl) dX4_kinds_19 (fun fx3 => ?_)
      refine gr_istore_n (lv' := [some (.ref 38), some (.int p0), some (.int p1), some (.int x3.1)]) dX4_kinds_22 rfl (by decide) rfl ?_
      refine gr_iload_n dX4_kinds_23 rfl rfl ?_
      refine gr_if_eq (tgt := 31) dX4_kinds_24 (by decide) h (fun _ h => ?_) (fun _ h => ?_)
      · refine gr_aload_n dX4_kinds_31 rfl rfl ?_
        refine gr_iload_n dX4_kinds_32 rfl rfl ?_
        refine gr_iload_n dX4_kinds_33 rfl rfl ?_
        obtain ⟨x4, hx4, h⟩ := gn_bd h
        refine gc_VI (c_X4_kindsBy hx4) my_X4_kindsBy mv_X4_kindsBy ob_38 ml_X4_216 rfl rfl ⟨Nat.le_of_ble_eq_true rfl, Nat.le_of_ble_eq_true rfl⟩ (Nat.le_of_ble_eq_true rfl) dX4_kinds_34 (fun fx4 => ?_)
        exact gq_retIM dX4_kinds_37 rfl h
      · refine gr_iload_n dX4_kinds_27 rfl rfl ?_
        refine gr_goto (tgt := 37) dX4_kinds_28 (by decide) ?_
        exact gq_retIM dX4_kinds_37 rfl h
def L_X4_test_82 (n : Nat) (m : gn_M) (a1 : Int32) (a4 : Int32) (a5 : Int32) (a6 : Int32) (a7 : Int32) (a8 : Int32) (a9 : Int32) (k : Int32 → Option (Int32 × gn_M)) : Nat → Int32 → Int32 → Option (Int32 × gn_M)
  | 0, _, _ => none
  | f + 1, v10, v11 => (if (5 : Int32) < v11 then k v10 else (f_X4_has a4 a9).bind (fun x5 => (if x5 = 0 then L_X4_test_82 n m a1 a4 a5 a6 a7 a8 a9 k f (v10 + (0 : Int32)) (v11 + (1 : Int32)) else (f_X4_has a4 v11).bind (fun x6 => (if x6 = 0 then L_X4_test_82 n m a1 a4 a5 a6 a7 a8 a9 k f (v10 + (0 : Int32)) (v11 + (1 : Int32)) else (f_X4_tellsBy a1 a9 a7).bind (fun x7 => (f_X4_tellsBy a1 v11 a7).bind (fun x8 => (if x7 = x8 then L_X4_test_82 n m a1 a4 a5 a6 a7 a8 a9 k f (v10 + (1 : Int32)) (v11 + (1 : Int32)) else L_X4_test_82 n m a1 a4 a5 a6 a7 a8 a9 k f (v10 + (0 : Int32)) (v11 + (1 : Int32))))))))))
set_option maxRecDepth 100000 in
set_option maxHeartbeats 4000000 in
theorem l_X4_test_82 {n : Nat} {m : gn_M} {a1 : Int32} {a4 : Int32} {a5 : Int32} {a6 : Int32} {a7 : Int32} {a8 : Int32} {a9 : Int32} {k : Int32 → Option (Int32 × gn_M)} {v : Int32 × gn_M} (hk : ∀ (e10 : Int32), k e10 = some v → gn_Go RX4 cX4_test 12 3 66 (some .int) none 143 [some (.ref 38), some (.int a1), none, none, some (.int a4), some (.int a5), some (.int a6), some (.int a7), some (.int a8), some (.int a9), some (.int e10), none] [] m (some (.int v.1)) v.2) : ∀ (f : Nat) (v10 : Int32) (v11 : Int32), L_X4_test_82 n m a1 a4 a5 a6 a7 a8 a9 k f v10 v11 = some v → gn_Go RX4 cX4_test 12 3 66 (some .int) none 82 [some (.ref 38), some (.int a1), none, none, some (.int a4), some (.int a5), some (.int a6), some (.int a7), some (.int a8), some (.int a9), some (.int v10), some (.int v11)] [] m (some (.int v.1)) v.2 := by
  intro f
  induction f with
  | zero =>
    intro v10 v11 h
    cases h
  | succ f ih =>
    intro v10 v11 h
    rw [L_X4_test_82] at h
    refine gr_iload dX4_test_82 rfl ?_
    refine gr_iconst dX4_test_84 gk_i_5 ?_
    refine gr_icmp_gt (tgt := 143) dX4_test_85 (by decide) h (fun _ h => ?_) (fun _ h => ?_)
    · refine gn_wkn [true, true, false, false, true, true, true, true, true, true, true, false] rfl ?_
      exact hk _ h
    · refine gr_iload dX4_test_88 rfl ?_
      refine gr_iload dX4_test_90 rfl ?_
      refine gr_iload dX4_test_92 rfl ?_
      obtain ⟨x5, hx5, h⟩ := gn_bd h
      refine gc_SI (c_X4_has hx5) my_X4_has ms_X4_has ml_X4_123 rfl rfl ⟨Nat.le_of_ble_eq_true rfl, Nat.le_of_ble_eq_true rfl⟩ (Nat.le_of_ble_eq_true rfl) dX4_test_94 (fun fx5 => ?_)
      refine gr_if_eq (tgt := 133) dX4_test_97 (by decide) h (fun _ h => ?_) (fun _ h => ?_)
      · refine gr_iconst dX4_test_133 gk_i_0 ?_
        refine gr_iadd dX4_test_134 ?_
        refine gr_istore (lv' := [some (.ref 38), some (.int a1), none, none, some (.int a4), some (.int a5), some (.int a6), some (.int a7), some (.int a8), some (.int a9), some (.int (v10 + (0 : Int32))), some (.int v11)]) dX4_test_135 (by decide) rfl ?_
        refine gr_iinc (lv' := [some (.ref 38), some (.int a1), none, none, some (.int a4), some (.int a5), some (.int a6), some (.int a7), some (.int a8), some (.int a9), some (.int (v10 + (0 : Int32))), some (.int (v11 + (1 : Int32)))]) dX4_test_137 rfl gk_i_1 (by decide) rfl ?_
        refine gr_goto (tgt := 82) dX4_test_140 (by decide) ?_
        exact ih _ _ h
      · refine gr_iload dX4_test_100 rfl ?_
        refine gr_iload dX4_test_102 rfl ?_
        obtain ⟨x6, hx6, h⟩ := gn_bd h
        refine gc_SI (c_X4_has hx6) my_X4_has ms_X4_has ml_X4_123 rfl rfl ⟨Nat.le_of_ble_eq_true rfl, Nat.le_of_ble_eq_true rfl⟩ (Nat.le_of_ble_eq_true rfl) dX4_test_104 (fun fx6 => ?_)
        refine gr_if_eq (tgt := 133) dX4_test_107 (by decide) h (fun _ h => ?_) (fun _ h => ?_)
        · refine gr_iconst dX4_test_133 gk_i_0 ?_
          refine gr_iadd dX4_test_134 ?_
          refine gr_istore (lv' := [some (.ref 38), some (.int a1), none, none, some (.int a4), some (.int a5), some (.int a6), some (.int a7), some (.int a8), some (.int a9), some (.int (v10 + (0 : Int32))), some (.int v11)]) dX4_test_135 (by decide) rfl ?_
          refine gr_iinc (lv' := [some (.ref 38), some (.int a1), none, none, some (.int a4), some (.int a5), some (.int a6), some (.int a7), some (.int a8), some (.int a9), some (.int (v10 + (0 : Int32))), some (.int (v11 + (1 : Int32)))]) dX4_test_137 rfl gk_i_1 (by decide) rfl ?_
          refine gr_goto (tgt := 82) dX4_test_140 (by decide) ?_
          exact ih _ _ h
        · refine gr_iload_n dX4_test_110 rfl rfl ?_
          refine gr_iload dX4_test_111 rfl ?_
          refine gr_iload dX4_test_113 rfl ?_
          obtain ⟨x7, hx7, h⟩ := gn_bd h
          refine gc_SI (c_X4_tellsBy hx7) my_X4_tellsBy ms_X4_tellsBy ml_X4_116 rfl rfl ⟨Nat.le_of_ble_eq_true rfl, Nat.le_of_ble_eq_true rfl⟩ (Nat.le_of_ble_eq_true rfl) dX4_test_115 (fun fx7 => ?_)
          refine gr_iload_n dX4_test_118 rfl rfl ?_
          refine gr_iload dX4_test_119 rfl ?_
          refine gr_iload dX4_test_121 rfl ?_
          obtain ⟨x8, hx8, h⟩ := gn_bd h
          refine gc_SI (c_X4_tellsBy hx8) my_X4_tellsBy ms_X4_tellsBy ml_X4_116 rfl rfl ⟨Nat.le_of_ble_eq_true rfl, Nat.le_of_ble_eq_true rfl⟩ (Nat.le_of_ble_eq_true rfl) dX4_test_123 (fun fx8 => ?_)
          refine gr_icmp_ne (tgt := 133) dX4_test_126 (by decide) h (fun _ h => ?_) (fun _ h => ?_)
          · refine gr_iconst dX4_test_129 gk_i_1 ?_
            refine gr_goto (tgt := 134) dX4_test_130 (by decide) ?_
            refine gr_iadd dX4_test_134 ?_
            refine gr_istore (lv' := [some (.ref 38), some (.int a1), none, none, some (.int a4), some (.int a5), some (.int a6), some (.int a7), some (.int a8), some (.int a9), some (.int (v10 + (1 : Int32))), some (.int v11)]) dX4_test_135 (by decide) rfl ?_
            refine gr_iinc (lv' := [some (.ref 38), some (.int a1), none, none, some (.int a4), some (.int a5), some (.int a6), some (.int a7), some (.int a8), some (.int a9), some (.int (v10 + (1 : Int32))), some (.int (v11 + (1 : Int32)))]) dX4_test_137 rfl gk_i_1 (by decide) rfl ?_
            refine gr_goto (tgt := 82) dX4_test_140 (by decide) ?_
            exact ih _ _ h
          · refine gr_iconst dX4_test_133 gk_i_0 ?_
            refine gr_iadd dX4_test_134 ?_
            refine gr_istore (lv' := [some (.ref 38), some (.int a1), none, none, some (.int a4), some (.int a5), some (.int a6), some (.int a7), some (.int a8), some (.int a9), some (.int (v10 + (0 : Int32))), some (.int v11)]) dX4_test_135 (by decide) rfl ?_
            refine gr_iinc (lv' := [some (.ref 38), some (.int a1), none, none, some (.int a4), some (.int a5), some (.int a6), some (.int a7), some (.int a8), some (.int a9), some (.int (v10 + (0 : Int32))), some (.int (v11 + (1 : Int32)))]) dX4_test_137 rfl gk_i_1 (by decide) rfl ?_
            refine gr_goto (tgt := 82) dX4_test_140 (by decide) ?_
            exact ih _ _ h
def L_X4_test_70 (n : Nat) (m : gn_M) (a1 : Int32) (a4 : Int32) (a5 : Int32) (a6 : Int32) (a7 : Int32) (k : Int32 → Option (Int32 × gn_M)) : Nat → Int32 → Int32 → Option (Int32 × gn_M)
  | 0, _, _ => none
  | f + 1, v8, v9 => (if (5 : Int32) < v9 then k v8 else L_X4_test_82 n m a1 a4 a5 a6 a7 v8 v9 (fun (e9 : Int32) => (if v8 < e9 then L_X4_test_70 n m a1 a4 a5 a6 a7 k f e9 (v9 + (1 : Int32)) else L_X4_test_70 n m a1 a4 a5 a6 a7 k f v8 (v9 + (1 : Int32)))) n (0 : Int32) (0 : Int32))
set_option maxRecDepth 100000 in
set_option maxHeartbeats 4000000 in
theorem l_X4_test_70 {n : Nat} {m : gn_M} {a1 : Int32} {a4 : Int32} {a5 : Int32} {a6 : Int32} {a7 : Int32} {k : Int32 → Option (Int32 × gn_M)} {v : Int32 × gn_M} (hk : ∀ (e8 : Int32), k e8 = some v → gn_Go RX4 cX4_test 12 3 66 (some .int) none 165 [some (.ref 38), some (.int a1), none, none, some (.int a4), some (.int a5), some (.int a6), some (.int a7), some (.int e8), none, none, none] [] m (some (.int v.1)) v.2) : ∀ (f : Nat) (v8 : Int32) (v9 : Int32), L_X4_test_70 n m a1 a4 a5 a6 a7 k f v8 v9 = some v → gn_Go RX4 cX4_test 12 3 66 (some .int) none 70 [some (.ref 38), some (.int a1), none, none, some (.int a4), some (.int a5), some (.int a6), some (.int a7), some (.int v8), some (.int v9), none, none] [] m (some (.int v.1)) v.2 := by
  intro f
  induction f with
  | zero =>
    intro v8 v9 h
    cases h
  | succ f ih =>
    intro v8 v9 h
    rw [L_X4_test_70] at h
    refine gr_iload dX4_test_70 rfl ?_
    refine gr_iconst dX4_test_72 gk_i_5 ?_
    refine gr_icmp_gt (tgt := 165) dX4_test_73 (by decide) h (fun _ h => ?_) (fun _ h => ?_)
    · refine gn_wkn [true, true, false, false, true, true, true, true, true, false, false, false] rfl ?_
      exact hk _ h
    · refine gr_iconst dX4_test_76 gk_i_0 ?_
      refine gr_istore (lv' := [some (.ref 38), some (.int a1), none, none, some (.int a4), some (.int a5), some (.int a6), some (.int a7), some (.int v8), some (.int v9), some (.int (0 : Int32)), none]) dX4_test_77 (by decide) rfl ?_
      refine gr_iconst dX4_test_79 gk_i_0 ?_
      refine gr_istore (lv' := [some (.ref 38), some (.int a1), none, none, some (.int a4), some (.int a5), some (.int a6), some (.int a7), some (.int v8), some (.int v9), some (.int (0 : Int32)), some (.int (0 : Int32))]) dX4_test_80 (by decide) rfl ?_
      refine l_X4_test_82 (fun e9 h => ?_) _ _ _ h
      refine gr_iload dX4_test_143 rfl ?_
      refine gr_iload dX4_test_145 rfl ?_
      refine gr_icmp_le (tgt := 155) dX4_test_147 (by decide) h (fun _ h => ?_) (fun _ h => ?_)
      · refine gr_iload dX4_test_150 rfl ?_
        refine gr_goto (tgt := 157) dX4_test_152 (by decide) ?_
        refine gr_istore (lv' := [some (.ref 38), some (.int a1), none, none, some (.int a4), some (.int a5), some (.int a6), some (.int a7), some (.int e9), some (.int v9), some (.int e9), none]) dX4_test_157 (by decide) rfl ?_
        refine gr_iinc (lv' := [some (.ref 38), some (.int a1), none, none, some (.int a4), some (.int a5), some (.int a6), some (.int a7), some (.int e9), some (.int (v9 + (1 : Int32))), some (.int e9), none]) dX4_test_159 rfl gk_i_1 (by decide) rfl ?_
        refine gr_goto (tgt := 70) dX4_test_162 (by decide) ?_
        refine gn_wkn [true, true, false, false, true, true, true, true, true, true, false, false] rfl ?_
        exact ih _ _ h
      · refine gr_iload dX4_test_155 rfl ?_
        refine gr_istore (lv' := [some (.ref 38), some (.int a1), none, none, some (.int a4), some (.int a5), some (.int a6), some (.int a7), some (.int v8), some (.int v9), some (.int e9), none]) dX4_test_157 (by decide) rfl ?_
        refine gr_iinc (lv' := [some (.ref 38), some (.int a1), none, none, some (.int a4), some (.int a5), some (.int a6), some (.int a7), some (.int v8), some (.int (v9 + (1 : Int32))), some (.int e9), none]) dX4_test_159 rfl gk_i_1 (by decide) rfl ?_
        refine gr_goto (tgt := 70) dX4_test_162 (by decide) ?_
        refine gn_wkn [true, true, false, false, true, true, true, true, true, true, false, false] rfl ?_
        exact ih _ _ h
def L_X4_test_48 (n : Nat) (m : gn_M) (a1 : Int32) (a4 : Int32) (k : Int32 → Int32 → Option (Int32 × gn_M)) : Nat → Int32 → Int32 → Int32 → Option (Int32 × gn_M)
  | 0, _, _, _ => none
  | f + 1, v5, v6, v7 => (if v7 < ((1 : Int32) <<< ((m.1 38 10) &&& 31)) then (if a4 = 0 then k v5 v6 else L_X4_test_70 n m a1 a4 v5 v6 v7 (fun (e10 : Int32) => (if e10 < v6 then L_X4_test_48 n m a1 a4 k f (if e10 < v6 then v7 else v5) e10 (v7 + (1 : Int32)) else L_X4_test_48 n m a1 a4 k f (if e10 < v6 then v7 else v5) v6 (v7 + (1 : Int32)))) n (0 : Int32) (0 : Int32)) else k v5 v6)
set_option maxRecDepth 100000 in
set_option maxHeartbeats 4000000 in
theorem l_X4_test_48 {n : Nat} {m : gn_M} {a1 : Int32} {a4 : Int32} {k : Int32 → Int32 → Option (Int32 × gn_M)} {v : Int32 × gn_M} (hk : ∀ (e5 : Int32) (e6 : Int32), k e5 e6 = some v → gn_Go RX4 cX4_test 12 3 66 (some .int) none 203 [some (.ref 38), none, none, none, none, some (.int e5), some (.int e6), none, none, none, none, none] [] m (some (.int v.1)) v.2) : ∀ (f : Nat) (v5 : Int32) (v6 : Int32) (v7 : Int32), L_X4_test_48 n m a1 a4 k f v5 v6 v7 = some v → gn_Go RX4 cX4_test 12 3 66 (some .int) none 48 [some (.ref 38), some (.int a1), none, none, some (.int a4), some (.int v5), some (.int v6), some (.int v7), none, none, none, none] [] m (some (.int v.1)) v.2 := by
  intro f
  induction f with
  | zero =>
    intro v5 v6 v7 h
    cases h
  | succ f ih =>
    intro v5 v6 v7 h
    rw [L_X4_test_48] at h
    refine gr_iload dX4_test_48 rfl ?_
    refine gr_iconst dX4_test_50 gk_i_1 ?_
    refine gr_aload_n dX4_test_51 rfl rfl ?_
    refine gr_getI q_38_10 fl_X4_104 dX4_test_52 ?_
    refine gr_ishl dX4_test_55 ?_
    refine gr_icmp_ge (tgt := 203) dX4_test_56 (by decide) h (fun _ h => ?_) (fun _ h => ?_)
    · refine gr_iload dX4_test_59 rfl ?_
      refine gr_if_eq (tgt := 203) dX4_test_61 (by decide) h (fun _ h => ?_) (fun _ h => ?_)
      · refine gn_wkn [true, false, false, false, false, true, true, false, false, false, false, false] rfl ?_
        exact hk _ _ h
      · refine gr_iconst dX4_test_64 gk_i_0 ?_
        refine gr_istore (lv' := [some (.ref 38), some (.int a1), none, none, some (.int a4), some (.int v5), some (.int v6), some (.int v7), some (.int (0 : Int32)), none, none, none]) dX4_test_65 (by decide) rfl ?_
        refine gr_iconst dX4_test_67 gk_i_0 ?_
        refine gr_istore (lv' := [some (.ref 38), some (.int a1), none, none, some (.int a4), some (.int v5), some (.int v6), some (.int v7), some (.int (0 : Int32)), some (.int (0 : Int32)), none, none]) dX4_test_68 (by decide) rfl ?_
        refine l_X4_test_70 (fun e10 h => ?_) _ _ _ h
        refine gr_iload dX4_test_165 rfl ?_
        refine gr_iload dX4_test_167 rfl ?_
        have hJ : ∀ y11 : Int32, y11 = (if e10 < v6 then v7 else v5) → gn_Go RX4 cX4_test 12 3 66 (some .int) none 179 [some (.ref 38), some (.int a1), none, none, some (.int a4), none, some (.int v6), some (.int v7), some (.int e10), none, none, none] [.int y11] m (some (.int v.1)) v.2 := by
          intro y11 hx
          subst hx
          refine gr_istore (lv' := [some (.ref 38), some (.int a1), none, none, some (.int a4), some (.int (if e10 < v6 then v7 else v5)), some (.int v6), some (.int v7), some (.int e10), none, none, none]) dX4_test_179 (by decide) rfl ?_
          refine gr_iload dX4_test_181 rfl ?_
          refine gr_iload dX4_test_183 rfl ?_
          refine gr_icmp_ge (tgt := 193) dX4_test_185 (by decide) h (fun _ h => ?_) (fun _ h => ?_)
          · refine gr_iload dX4_test_188 rfl ?_
            refine gr_goto (tgt := 195) dX4_test_190 (by decide) ?_
            refine gr_istore (lv' := [some (.ref 38), some (.int a1), none, none, some (.int a4), some (.int (if e10 < v6 then v7 else v5)), some (.int e10), some (.int v7), some (.int e10), none, none, none]) dX4_test_195 (by decide) rfl ?_
            refine gr_iinc (lv' := [some (.ref 38), some (.int a1), none, none, some (.int a4), some (.int (if e10 < v6 then v7 else v5)), some (.int e10), some (.int (v7 + (1 : Int32))), some (.int e10), none, none, none]) dX4_test_197 rfl gk_i_1 (by decide) rfl ?_
            refine gr_goto (tgt := 48) dX4_test_200 (by decide) ?_
            refine gn_wkn [true, true, false, false, true, true, true, true, false, false, false, false] rfl ?_
            exact ih _ _ _ h
          · refine gr_iload dX4_test_193 rfl ?_
            refine gr_istore (lv' := [some (.ref 38), some (.int a1), none, none, some (.int a4), some (.int (if e10 < v6 then v7 else v5)), some (.int v6), some (.int v7), some (.int e10), none, none, none]) dX4_test_195 (by decide) rfl ?_
            refine gr_iinc (lv' := [some (.ref 38), some (.int a1), none, none, some (.int a4), some (.int (if e10 < v6 then v7 else v5)), some (.int v6), some (.int (v7 + (1 : Int32))), some (.int e10), none, none, none]) dX4_test_197 rfl gk_i_1 (by decide) rfl ?_
            refine gr_goto (tgt := 48) dX4_test_200 (by decide) ?_
            refine gn_wkn [true, true, false, false, true, true, true, true, false, false, false, false] rfl ?_
            exact ih _ _ _ h
        by_cases hc0 : e10 < v6
        · refine gr_icmpT_ge (tgt := 177) dX4_test_169 (by decide) hc0 ?_
          refine gr_iload dX4_test_172 rfl ?_
          refine gr_goto (tgt := 179) dX4_test_174 (by decide) ?_
          refine gn_wkn [true, true, false, false, true, false, true, true, true, false, false, false] rfl ?_
          exact hJ _ (by rw [if_pos hc0])
        · refine gr_icmpF_ge (tgt := 177) dX4_test_169 (by decide) hc0 ?_
          refine gr_iload dX4_test_177 rfl ?_
          refine gn_wkn [true, true, false, false, true, false, true, true, true, false, false, false] rfl ?_
          exact hJ _ (by rw [if_neg hc0])
    · refine gn_wkn [true, false, false, false, false, true, true, false, false, false, false, false] rfl ?_
      exact hk _ _ h
def f_X4_test (n : Nat) (m : gn_M) (p0 : Int32) (p1 : Int32) : Option (Int32 × gn_M) := (f_X4_isGoer m p0).bind (fun x1 => (if x1 = 0 then some ((-1 : Int32), m) else (f_X4_isRow p1).bind (fun x2 => (if x2 = 0 then some ((-1 : Int32), m) else (f_X4_pairs n m p1).bind (fun x3 => (if x3.1 = 0 then (f_X4_kindsBy n x3.2 p0 p1).bind (fun x4 => L_X4_test_48 n x3.2 p0 x4 (fun (e12 : Int32) (e13 : Int32) => (if e12 = (-9 : Int32) then some (e12, x3.2) else (f_X4_told x3.2 e13).bind (fun x14 => some (e12, x14.2)))) n (-9 : Int32) (7 : Int32) (0 : Int32)) else some (x3.1, x3.2)))))))
set_option maxRecDepth 100000 in
set_option maxHeartbeats 4000000 in
theorem c_X4_test {n : Nat} {m : gn_M} {p0 : Int32} {p1 : Int32} {v : Int32 × gn_M} (h : f_X4_test n m p0 p1 = some v) : gn_Cl yX4_test cX4_test 12 (some .int) 3 66 [.ref 38, .int p0, .int p1] m (some (.int v.1)) v.2 := by
  rw [f_X4_test] at h
  refine gn_met (lv := [some (.ref 38), some (.int p0), some (.int p1), none, none, none, none, none, none, none, none, none]) pl_X4 rfl rfl (Nat.le_of_ble_eq_true rfl) ?_
  refine gr_aload_n dX4_test_0 rfl rfl ?_
  refine gr_iload_n dX4_test_1 rfl rfl ?_
  obtain ⟨x1, hx1, h⟩ := gn_bd h
  refine gc_VI (c_X4_isGoer hx1) my_X4_isGoer mv_X4_isGoer ob_38 ml_X4_143 rfl rfl ⟨Nat.le_of_ble_eq_true rfl, Nat.le_of_ble_eq_true rfl⟩ (Nat.le_of_ble_eq_true rfl) dX4_test_2 (fun fx1 => ?_)
  refine gr_if_eq (tgt := 15) dX4_test_5 (by decide) h (fun _ h => ?_) (fun _ h => ?_)
  · refine gr_iconst dX4_test_15 gk_i_m1 ?_
    exact gq_retIM dX4_test_16 rfl h
  · refine gr_iload_n dX4_test_8 rfl rfl ?_
    obtain ⟨x2, hx2, h⟩ := gn_bd h
    refine gc_SI (c_X4_isRow hx2) my_X4_isRow ms_X4_isRow ml_X4_81 rfl rfl ⟨Nat.le_of_ble_eq_true rfl, Nat.le_of_ble_eq_true rfl⟩ (Nat.le_of_ble_eq_true rfl) dX4_test_9 (fun fx2 => ?_)
    refine gr_if_ne (tgt := 17) dX4_test_12 (by decide) h (fun _ h => ?_) (fun _ h => ?_)
    · refine gr_iconst dX4_test_15 gk_i_m1 ?_
      exact gq_retIM dX4_test_16 rfl h
    · refine gr_aload_n dX4_test_17 rfl rfl ?_
      refine gr_iload_n dX4_test_18 rfl rfl ?_
      obtain ⟨x3, hx3, h⟩ := gn_bd h
      refine gc_VI (c_X4_pairs hx3) my_X4_pairs mv_X4_pairs ob_38 ml_X4_213 rfl rfl ⟨Nat.le_of_ble_eq_true rfl, Nat.le_of_ble_eq_true rfl⟩ (Nat.le_of_ble_eq_true rfl) dX4_test_19 (fun fx3 => ?_)
      refine gr_istore_n (lv' := [some (.ref 38), some (.int p0), some (.int p1), some (.int x3.1), none, none, none, none, none, none, none, none]) dX4_test_22 rfl (by decide) rfl ?_
      refine gr_iload_n dX4_test_23 rfl rfl ?_
      refine gr_if_eq (tgt := 29) dX4_test_24 (by decide) h (fun _ h => ?_) (fun _ h => ?_)
      · refine gr_aload_n dX4_test_29 rfl rfl ?_
        refine gr_iload_n dX4_test_30 rfl rfl ?_
        refine gr_iload_n dX4_test_31 rfl rfl ?_
        obtain ⟨x4, hx4, h⟩ := gn_bd h
        refine gc_VI (c_X4_kindsBy hx4) my_X4_kindsBy mv_X4_kindsBy ob_38 ml_X4_216 rfl rfl ⟨Nat.le_of_ble_eq_true rfl, Nat.le_of_ble_eq_true rfl⟩ (Nat.le_of_ble_eq_true rfl) dX4_test_32 (fun fx4 => ?_)
        refine gr_istore (lv' := [some (.ref 38), some (.int p0), some (.int p1), some (.int x3.1), some (.int x4), none, none, none, none, none, none, none]) dX4_test_35 (by decide) rfl ?_
        refine gr_bipush dX4_test_37 gk_b_m9 ?_
        refine gr_istore (lv' := [some (.ref 38), some (.int p0), some (.int p1), some (.int x3.1), some (.int x4), some (.int (-9 : Int32)), none, none, none, none, none, none]) dX4_test_39 (by decide) rfl ?_
        refine gr_bipush dX4_test_41 gk_b_7 ?_
        refine gr_istore (lv' := [some (.ref 38), some (.int p0), some (.int p1), some (.int x3.1), some (.int x4), some (.int (-9 : Int32)), some (.int (7 : Int32)), none, none, none, none, none]) dX4_test_43 (by decide) rfl ?_
        refine gr_iconst dX4_test_45 gk_i_0 ?_
        refine gr_istore (lv' := [some (.ref 38), some (.int p0), some (.int p1), some (.int x3.1), some (.int x4), some (.int (-9 : Int32)), some (.int (7 : Int32)), some (.int (0 : Int32)), none, none, none, none]) dX4_test_46 (by decide) rfl ?_
        refine gn_wkn [true, true, false, false, true, true, true, true, false, false, false, false] rfl ?_
        refine l_X4_test_48 (fun e12 e13 h => ?_) _ _ _ _ h
        refine gr_iload dX4_test_203 rfl ?_
        refine gr_bipush dX4_test_205 gk_b_m9 ?_
        refine gr_icmp_eq (tgt := 217) dX4_test_207 (by decide) h (fun _ h => ?_) (fun _ h => ?_)
        · refine gr_iload dX4_test_217 rfl ?_
          exact gq_retIM dX4_test_219 rfl h
        · refine gr_aload_n dX4_test_210 rfl rfl ?_
          refine gr_iload dX4_test_211 rfl ?_
          obtain ⟨x14, hx14, h⟩ := gn_bd h
          refine gc_VI (c_X4_told hx14) my_X4_told mv_X4_told ob_38 ml_X4_89 rfl rfl ⟨Nat.le_of_ble_eq_true rfl, Nat.le_of_ble_eq_true rfl⟩ (Nat.le_of_ble_eq_true rfl) dX4_test_213 (fun fx14 => ?_)
          refine gr_pop dX4_test_216 rfl ?_
          refine gr_iload dX4_test_217 rfl ?_
          exact gq_retIM dX4_test_219 rfl h
      · refine gr_iload_n dX4_test_27 rfl rfl ?_
        exact gq_retIM dX4_test_28 rfl h
def L_X4_duel_57 (n : Nat) (m : gn_M) (a1 : Int32) (a3 : Int32) (a4 : Int32) (k : Int32 → Option (Int32 × gn_M)) : Nat → Int32 → Int32 → Option (Int32 × gn_M)
  | 0, _, _ => none
  | f + 1, v5, v6 => (if v6 < 0 then k v5 else (f_X4_has a1 v6).bind (fun x3 => gn_jn (fun (j4 : Int32) => (if j4 = 0 then L_X4_duel_57 n m a1 a3 a4 k f v5 (v6 + (-1 : Int32)) else gn_rd m 55 1024 (((8 : Int32) * (a3 ||| ((1 : Int32) <<< (v6 &&& 31)))) + v6) (fun x6 => (if x6 = 0 then L_X4_duel_57 n m a1 a3 a4 k f v6 (v6 + (-1 : Int32)) else L_X4_duel_57 n m a1 a3 a4 k f v5 (v6 + (-1 : Int32)))))) (fun J5 => (if x3 = 0 then J5 (0 : Int32) else (f_X4_has a3 v6).bind (fun x7 => (if x7 = 0 then (f_X4_mayGo m a4 v6).bind (fun x8 => (if x8 = 0 then J5 (0 : Int32) else J5 (1 : Int32))) else J5 (0 : Int32)))))))
set_option maxRecDepth 100000 in
set_option maxHeartbeats 4000000 in
theorem l_X4_duel_57 {n : Nat} {m : gn_M} {a1 : Int32} {a3 : Int32} {a4 : Int32} {k : Int32 → Option (Int32 × gn_M)} {v : Int32 × gn_M} (hk : ∀ (e5 : Int32), k e5 = some v → gn_Go RX4 cX4_duel 8 4 89 (some .int) none 138 [some (.ref 38), some (.int a1), none, some (.int a3), some (.int a4), some (.int e5), none, none] [] m (some (.int v.1)) v.2) : ∀ (f : Nat) (v5 : Int32) (v6 : Int32), L_X4_duel_57 n m a1 a3 a4 k f v5 v6 = some v → gn_Go RX4 cX4_duel 8 4 89 (some .int) none 57 [some (.ref 38), some (.int a1), none, some (.int a3), some (.int a4), some (.int v5), some (.int v6), none] [] m (some (.int v.1)) v.2 := by
  intro f
  induction f with
  | zero =>
    intro v5 v6 h
    cases h
  | succ f ih =>
    intro v5 v6 h
    rw [L_X4_duel_57] at h
    refine gr_iload dX4_duel_57 rfl ?_
    refine gr_if_lt (tgt := 138) dX4_duel_59 (by decide) h (fun _ h => ?_) (fun _ h => ?_)
    · refine gn_wkn [true, true, false, true, true, true, false, false] rfl ?_
      exact hk _ h
    · refine gr_iload_n dX4_duel_62 rfl rfl ?_
      refine gr_iload dX4_duel_63 rfl ?_
      obtain ⟨x3, hx3, h⟩ := gn_bd h
      refine gc_SI (c_X4_has hx3) my_X4_has ms_X4_has ml_X4_123 rfl rfl ⟨Nat.le_of_ble_eq_true rfl, Nat.le_of_ble_eq_true rfl⟩ (Nat.le_of_ble_eq_true rfl) dX4_duel_65 (fun fx3 => ?_)
      refine gn_jnE (P := fun (j4 : Int32) => gn_Go RX4 cX4_duel 8 4 89 (some .int) none 96 [some (.ref 38), some (.int a1), none, some (.int a3), some (.int a4), some (.int v5), some (.int v6), none] [.int j4] m (some (.int v.1)) v.2) h (fun j4 h => ?_) (fun J5 hJ5 h => ?_)
      · refine gr_istore (lv' := [some (.ref 38), some (.int a1), none, some (.int a3), some (.int a4), some (.int v5), some (.int v6), some (.int j4)]) dX4_duel_96 (by decide) rfl ?_
        refine gr_iload dX4_duel_98 rfl ?_
        refine gr_if_eq (tgt := 128) dX4_duel_100 (by decide) h (fun _ h => ?_) (fun _ h => ?_)
        · refine gr_iload dX4_duel_128 rfl ?_
          refine gr_istore (lv' := [some (.ref 38), some (.int a1), none, some (.int a3), some (.int a4), some (.int v5), some (.int v6), some (.int j4)]) dX4_duel_130 (by decide) rfl ?_
          refine gr_iinc (lv' := [some (.ref 38), some (.int a1), none, some (.int a3), some (.int a4), some (.int v5), some (.int (v6 + (-1 : Int32))), some (.int j4)]) dX4_duel_132 rfl gk_i_m1 (by decide) rfl ?_
          refine gr_goto (tgt := 57) dX4_duel_135 (by decide) ?_
          refine gn_wkn [true, true, false, true, true, true, true, false] rfl ?_
          exact ih _ _ h
        · refine gr_aload_n dX4_duel_103 rfl rfl ?_
          refine gr_getR q_38_23 fl_X4_63 dX4_duel_104 ?_
          refine gr_bipush dX4_duel_107 gk_b_8 ?_
          refine gr_iload_n dX4_duel_109 rfl rfl ?_
          refine gr_iconst dX4_duel_110 gk_i_1 ?_
          refine gr_iload dX4_duel_111 rfl ?_
          refine gr_ishl dX4_duel_113 ?_
          refine gr_ior dX4_duel_114 ?_
          refine gr_imul dX4_duel_115 ?_
          refine gr_iload dX4_duel_116 rfl ?_
          refine gr_iadd dX4_duel_118 ?_
          refine gq_zaload s_55 dX4_duel_119 h (fun x6 h => ?_)
          refine gr_if_ne (tgt := 128) dX4_duel_120 (by decide) h (fun _ h => ?_) (fun _ h => ?_)
          · refine gr_iload dX4_duel_123 rfl ?_
            refine gr_goto (tgt := 130) dX4_duel_125 (by decide) ?_
            refine gr_istore (lv' := [some (.ref 38), some (.int a1), none, some (.int a3), some (.int a4), some (.int v6), some (.int v6), some (.int j4)]) dX4_duel_130 (by decide) rfl ?_
            refine gr_iinc (lv' := [some (.ref 38), some (.int a1), none, some (.int a3), some (.int a4), some (.int v6), some (.int (v6 + (-1 : Int32))), some (.int j4)]) dX4_duel_132 rfl gk_i_m1 (by decide) rfl ?_
            refine gr_goto (tgt := 57) dX4_duel_135 (by decide) ?_
            refine gn_wkn [true, true, false, true, true, true, true, false] rfl ?_
            exact ih _ _ h
          · refine gr_iload dX4_duel_128 rfl ?_
            refine gr_istore (lv' := [some (.ref 38), some (.int a1), none, some (.int a3), some (.int a4), some (.int v5), some (.int v6), some (.int j4)]) dX4_duel_130 (by decide) rfl ?_
            refine gr_iinc (lv' := [some (.ref 38), some (.int a1), none, some (.int a3), some (.int a4), some (.int v5), some (.int (v6 + (-1 : Int32))), some (.int j4)]) dX4_duel_132 rfl gk_i_m1 (by decide) rfl ?_
            refine gr_goto (tgt := 57) dX4_duel_135 (by decide) ?_
            refine gn_wkn [true, true, false, true, true, true, true, false] rfl ?_
            exact ih _ _ h
      · refine gr_if_eq (tgt := 95) dX4_duel_68 (by decide) h (fun _ h => ?_) (fun _ h => ?_)
        · refine gr_iconst dX4_duel_95 gk_i_0 ?_
          exact hJ5 (0 : Int32) h
        · refine gr_iload_n dX4_duel_71 rfl rfl ?_
          refine gr_iload dX4_duel_72 rfl ?_
          obtain ⟨x7, hx7, h⟩ := gn_bd h
          refine gc_SI (c_X4_has hx7) my_X4_has ms_X4_has ml_X4_123 rfl rfl ⟨Nat.le_of_ble_eq_true rfl, Nat.le_of_ble_eq_true rfl⟩ (Nat.le_of_ble_eq_true rfl) dX4_duel_74 (fun fx7 => ?_)
          refine gr_if_ne (tgt := 95) dX4_duel_77 (by decide) h (fun _ h => ?_) (fun _ h => ?_)
          · refine gr_aload_n dX4_duel_80 rfl rfl ?_
            refine gr_iload dX4_duel_81 rfl ?_
            refine gr_iload dX4_duel_83 rfl ?_
            obtain ⟨x8, hx8, h⟩ := gn_bd h
            refine gc_VI (c_X4_mayGo hx8) my_X4_mayGo mv_X4_mayGo ob_38 ml_X4_172 rfl rfl ⟨Nat.le_of_ble_eq_true rfl, Nat.le_of_ble_eq_true rfl⟩ (Nat.le_of_ble_eq_true rfl) dX4_duel_85 (fun fx8 => ?_)
            refine gr_if_eq (tgt := 95) dX4_duel_88 (by decide) h (fun _ h => ?_) (fun _ h => ?_)
            · refine gr_iconst dX4_duel_95 gk_i_0 ?_
              exact hJ5 (0 : Int32) h
            · refine gr_iconst dX4_duel_91 gk_i_1 ?_
              refine gr_goto (tgt := 96) dX4_duel_92 (by decide) ?_
              exact hJ5 (1 : Int32) h
          · refine gr_iconst dX4_duel_95 gk_i_0 ?_
            exact hJ5 (0 : Int32) h
def L_X4_duel_38 (n : Nat) (a1 : Int32) (a3 : Int32) (k : Int32 → gn_M → Option (Int32 × gn_M)) : Nat → Int32 → Int32 → gn_M → Option (Int32 × gn_M)
  | 0, _, _, _ => none
  | f + 1, v2, v4, m => (if (7 : Int32) < v4 then k v2 m else L_X4_duel_57 n m a1 a3 v4 (fun (e9 : Int32) => (if e9 = (-9 : Int32) then gn_wr m 55 1024 (((8 : Int32) * a3) + v4) (vp_nar .boolean (0 : Int32)) (fun m10 => L_X4_duel_38 n a1 a3 k f e9 (v4 + (1 : Int32)) m10) else gn_wr m 55 1024 (((8 : Int32) * a3) + v4) (vp_nar .boolean (1 : Int32)) (fun m11 => L_X4_duel_38 n a1 a3 k f e9 (v4 + (1 : Int32)) m11))) n (-9 : Int32) ((m.1 38 10) - (1 : Int32)))
set_option maxRecDepth 100000 in
set_option maxHeartbeats 4000000 in
theorem l_X4_duel_38 {n : Nat} {a1 : Int32} {a3 : Int32} {k : Int32 → gn_M → Option (Int32 × gn_M)} {v : Int32 × gn_M} (hk : ∀ (e2 : Int32) (m1 : gn_M), k e2 m1 = some v → gn_Go RX4 cX4_duel 8 4 89 (some .int) none 171 [some (.ref 38), some (.int a1), some (.int e2), some (.int a3), none, none, none, none] [] m1 (some (.int v.1)) v.2) : ∀ (f : Nat) (v2 : Int32) (v4 : Int32) (m : gn_M), L_X4_duel_38 n a1 a3 k f v2 v4 m = some v → gn_Go RX4 cX4_duel 8 4 89 (some .int) none 38 [some (.ref 38), some (.int a1), some (.int v2), some (.int a3), some (.int v4), none, none, none] [] m (some (.int v.1)) v.2 := by
  intro f
  induction f with
  | zero =>
    intro v2 v4 m h
    cases h
  | succ f ih =>
    intro v2 v4 m h
    rw [L_X4_duel_38] at h
    refine gr_iload dX4_duel_38 rfl ?_
    refine gr_bipush dX4_duel_40 gk_b_7 ?_
    refine gr_icmp_gt (tgt := 171) dX4_duel_42 (by decide) h (fun _ h => ?_) (fun _ h => ?_)
    · refine gn_wkn [true, true, true, true, false, false, false, false] rfl ?_
      exact hk _ _ h
    · refine gr_bipush dX4_duel_45 gk_b_m9 ?_
      refine gr_istore (lv' := [some (.ref 38), some (.int a1), some (.int v2), some (.int a3), some (.int v4), some (.int (-9 : Int32)), none, none]) dX4_duel_47 (by decide) rfl ?_
      refine gr_aload_n dX4_duel_49 rfl rfl ?_
      refine gr_getI q_38_10 fl_X4_104 dX4_duel_50 ?_
      refine gr_iconst dX4_duel_53 gk_i_1 ?_
      refine gr_isub dX4_duel_54 ?_
      refine gr_istore (lv' := [some (.ref 38), some (.int a1), some (.int v2), some (.int a3), some (.int v4), some (.int (-9 : Int32)), some (.int ((m.1 38 10) - (1 : Int32))), none]) dX4_duel_55 (by decide) rfl ?_
      refine gn_wkn [true, true, false, true, true, true, true, false] rfl ?_
      refine l_X4_duel_57 (fun e9 h => ?_) _ _ _ h
      refine gr_aload_n dX4_duel_138 rfl rfl ?_
      refine gr_getR q_38_23 fl_X4_63 dX4_duel_139 ?_
      refine gr_bipush dX4_duel_142 gk_b_8 ?_
      refine gr_iload_n dX4_duel_144 rfl rfl ?_
      refine gr_imul dX4_duel_145 ?_
      refine gr_iload dX4_duel_146 rfl ?_
      refine gr_iadd dX4_duel_148 ?_
      refine gr_iload dX4_duel_149 rfl ?_
      refine gr_bipush dX4_duel_151 gk_b_m9 ?_
      refine gr_icmp_eq (tgt := 160) dX4_duel_153 (by decide) h (fun _ h => ?_) (fun _ h => ?_)
      · refine gr_iconst dX4_duel_160 gk_i_0 ?_
        refine gq_zastore s_55 dX4_duel_161 h (fun m10 h => ?_)
        refine gr_iload dX4_duel_162 rfl ?_
        refine gr_istore_n (lv' := [some (.ref 38), some (.int a1), some (.int e9), some (.int a3), some (.int v4), some (.int e9), none, none]) dX4_duel_164 rfl (by decide) rfl ?_
        refine gr_iinc (lv' := [some (.ref 38), some (.int a1), some (.int e9), some (.int a3), some (.int (v4 + (1 : Int32))), some (.int e9), none, none]) dX4_duel_165 rfl gk_i_1 (by decide) rfl ?_
        refine gr_goto (tgt := 38) dX4_duel_168 (by decide) ?_
        refine gn_wkn [true, true, true, true, true, false, false, false] rfl ?_
        exact ih _ _ _ h
      · refine gr_iconst dX4_duel_156 gk_i_1 ?_
        refine gr_goto (tgt := 161) dX4_duel_157 (by decide) ?_
        refine gq_zastore s_55 dX4_duel_161 h (fun m11 h => ?_)
        refine gr_iload dX4_duel_162 rfl ?_
        refine gr_istore_n (lv' := [some (.ref 38), some (.int a1), some (.int e9), some (.int a3), some (.int v4), some (.int e9), none, none]) dX4_duel_164 rfl (by decide) rfl ?_
        refine gr_iinc (lv' := [some (.ref 38), some (.int a1), some (.int e9), some (.int a3), some (.int (v4 + (1 : Int32))), some (.int e9), none, none]) dX4_duel_165 rfl gk_i_1 (by decide) rfl ?_
        refine gr_goto (tgt := 38) dX4_duel_168 (by decide) ?_
        refine gn_wkn [true, true, true, true, true, false, false, false] rfl ?_
        exact ih _ _ _ h
def L_X4_duel_31 (n : Nat) (a1 : Int32) (k : Int32 → gn_M → Option (Int32 × gn_M)) : Nat → Int32 → Int32 → gn_M → Option (Int32 × gn_M)
  | 0, _, _, _ => none
  | f + 1, v2, v3, m => (if v3 < 0 then k v2 m else L_X4_duel_38 n a1 v3 (fun (e12 : Int32) (m13 : gn_M) => L_X4_duel_31 n a1 k f e12 (v3 + (-1 : Int32)) m13) n v2 (0 : Int32) m)
set_option maxRecDepth 100000 in
set_option maxHeartbeats 4000000 in
theorem l_X4_duel_31 {n : Nat} {a1 : Int32} {k : Int32 → gn_M → Option (Int32 × gn_M)} {v : Int32 × gn_M} (hk : ∀ (e2 : Int32) (m1 : gn_M), k e2 m1 = some v → gn_Go RX4 cX4_duel 8 4 89 (some .int) none 177 [some (.ref 38), none, some (.int e2), none, none, none, none, none] [] m1 (some (.int v.1)) v.2) : ∀ (f : Nat) (v2 : Int32) (v3 : Int32) (m : gn_M), L_X4_duel_31 n a1 k f v2 v3 m = some v → gn_Go RX4 cX4_duel 8 4 89 (some .int) none 31 [some (.ref 38), some (.int a1), some (.int v2), some (.int v3), none, none, none, none] [] m (some (.int v.1)) v.2 := by
  intro f
  induction f with
  | zero =>
    intro v2 v3 m h
    cases h
  | succ f ih =>
    intro v2 v3 m h
    rw [L_X4_duel_31] at h
    refine gr_iload_n dX4_duel_31 rfl rfl ?_
    refine gr_if_lt (tgt := 177) dX4_duel_32 (by decide) h (fun _ h => ?_) (fun _ h => ?_)
    · refine gn_wkn [true, false, true, false, false, false, false, false] rfl ?_
      exact hk _ _ h
    · refine gr_iconst dX4_duel_35 gk_i_0 ?_
      refine gr_istore (lv' := [some (.ref 38), some (.int a1), some (.int v2), some (.int v3), some (.int (0 : Int32)), none, none, none]) dX4_duel_36 (by decide) rfl ?_
      refine l_X4_duel_38 (fun e12 m13 h => ?_) _ _ _ _ h
      refine gr_iinc (lv' := [some (.ref 38), some (.int a1), some (.int e12), some (.int (v3 + (-1 : Int32))), none, none, none, none]) dX4_duel_171 rfl gk_i_m1 (by decide) rfl ?_
      refine gr_goto (tgt := 31) dX4_duel_174 (by decide) ?_
      exact ih _ _ _ h
def f_X4_duel (n : Nat) (m : gn_M) : Option (Int32 × gn_M) := (if (m.1 38 10) = 0 then some ((-4 : Int32), m) else (f_X4_tellNames n m).bind (fun x1 => (f_X4_left x1).bind (fun x2 => L_X4_duel_31 n x2 (fun (e14 : Int32) (m15 : gn_M) => (f_X4_told m15 e14).bind (fun x16 => (if e14 = (-9 : Int32) then some ((0 : Int32), x16.2) else some ((1 : Int32), x16.2)))) n (-9 : Int32) (((1 : Int32) <<< ((x1.1 38 10) &&& 31)) - (1 : Int32)) x1)))
set_option maxRecDepth 100000 in
set_option maxHeartbeats 4000000 in
theorem c_X4_duel {n : Nat} {m : gn_M} {v : Int32 × gn_M} (h : f_X4_duel n m = some v) : gn_Cl yX4_duel cX4_duel 8 (some .int) 4 89 [.ref 38] m (some (.int v.1)) v.2 := by
  rw [f_X4_duel] at h
  refine gn_met (lv := [some (.ref 38), none, none, none, none, none, none, none]) pl_X4 rfl rfl (Nat.le_of_ble_eq_true rfl) ?_
  refine gr_aload_n dX4_duel_0 rfl rfl ?_
  refine gr_getI q_38_10 fl_X4_104 dX4_duel_1 ?_
  refine gr_if_ne (tgt := 10) dX4_duel_4 (by decide) h (fun _ h => ?_) (fun _ h => ?_)
  · refine gr_bipush dX4_duel_7 gk_b_m4 ?_
    exact gq_retIM dX4_duel_9 rfl h
  · refine gr_aload_n dX4_duel_10 rfl rfl ?_
    obtain ⟨x1, hx1, h⟩ := gn_bd h
    refine gc_V0 (c_X4_tellNames hx1) my_X4_tellNames mv_X4_tellNames ob_38 ml_X4_181 rfl rfl ⟨Nat.le_of_ble_eq_true rfl, Nat.le_of_ble_eq_true rfl⟩ (Nat.le_of_ble_eq_true rfl) dX4_duel_11 (fun fx1 => ?_)
    refine gr_aload_n dX4_duel_14 rfl rfl ?_
    obtain ⟨x2, hx2, h⟩ := gn_bd h
    refine gc_VI (c_X4_left hx2) my_X4_left mv_X4_left ob_38 ml_X4_149 rfl rfl ⟨Nat.le_of_ble_eq_true rfl, Nat.le_of_ble_eq_true rfl⟩ (Nat.le_of_ble_eq_true rfl) dX4_duel_15 (fun fx2 => ?_)
    refine gr_istore_n (lv' := [some (.ref 38), some (.int x2), none, none, none, none, none, none]) dX4_duel_18 rfl (by decide) rfl ?_
    refine gr_bipush dX4_duel_19 gk_b_m9 ?_
    refine gr_istore_n (lv' := [some (.ref 38), some (.int x2), some (.int (-9 : Int32)), none, none, none, none, none]) dX4_duel_21 rfl (by decide) rfl ?_
    refine gr_iconst dX4_duel_22 gk_i_1 ?_
    refine gr_aload_n dX4_duel_23 rfl rfl ?_
    refine gr_getI q_38_10 fl_X4_104 dX4_duel_24 ?_
    refine gr_ishl dX4_duel_27 ?_
    refine gr_iconst dX4_duel_28 gk_i_1 ?_
    refine gr_isub dX4_duel_29 ?_
    refine gr_istore_n (lv' := [some (.ref 38), some (.int x2), some (.int (-9 : Int32)), some (.int (((1 : Int32) <<< ((x1.1 38 10) &&& 31)) - (1 : Int32))), none, none, none, none]) dX4_duel_30 rfl (by decide) rfl ?_
    refine l_X4_duel_31 (fun e14 m15 h => ?_) _ _ _ _ h
    refine gr_aload_n dX4_duel_177 rfl rfl ?_
    refine gr_iload_n dX4_duel_178 rfl rfl ?_
    obtain ⟨x16, hx16, h⟩ := gn_bd h
    refine gc_VI (c_X4_told hx16) my_X4_told mv_X4_told ob_38 ml_X4_89 rfl rfl ⟨Nat.le_of_ble_eq_true rfl, Nat.le_of_ble_eq_true rfl⟩ (Nat.le_of_ble_eq_true rfl) dX4_duel_179 (fun fx16 => ?_)
    refine gr_pop dX4_duel_182 rfl ?_
    refine gr_iload_n dX4_duel_183 rfl rfl ?_
    refine gr_bipush dX4_duel_184 gk_b_m9 ?_
    refine gr_icmp_ne (tgt := 193) dX4_duel_186 (by decide) h (fun _ h => ?_) (fun _ h => ?_)
    · refine gr_iconst dX4_duel_189 gk_i_0 ?_
      refine gr_goto (tgt := 194) dX4_duel_190 (by decide) ?_
      exact gq_retIM dX4_duel_194 rfl h
    · refine gr_iconst dX4_duel_193 gk_i_1 ?_
      exact gq_retIM dX4_duel_194 rfl h
