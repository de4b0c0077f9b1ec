def L_X3_test_39 (n : Nat) (m : gn_M) (a1 : Int32) (a4 : Int32) (k : Int32 → Int32 → Option (Int32 × gn_M)) : Nat → Int32 → Int32 → Int32 → Option (Int32 × gn_M)
  | 0, _, _, _ => none
  | f + 1, v5, v6, v7 => (if v7 < ((1 : Int32) <<< ((m.1 7 6) &&& 31)) then (f_X3_greatestPart n a4 a1 v7).bind (fun x3 => (if x3 < v6 then L_X3_test_39 n m a1 a4 k f v7 x3 (v7 + (1 : Int32)) else L_X3_test_39 n m a1 a4 k f v5 v6 (v7 + (1 : Int32)))) else k v5 v6)
set_option maxRecDepth 100000 in
set_option maxHeartbeats 4000000 in
theorem l_X3_test_39 {n : Nat} {m : gn_M} {a1 : Int32} {a4 : Int32} {k : Int32 → Int32 → Option (Int32 × gn_M)} {v : Int32 × gn_M} (hk : ∀ (e5 : Int32) (e6 : Int32), k e5 e6 = some v → gn_Go RX3 cX3_test 9 3 72 (some .int) none 84 [some (.ref 0), none, none, none, none, some (.int e5), some (.int e6), none, none] [] m (some (.int v.1)) v.2) : ∀ (f : Nat) (v5 : Int32) (v6 : Int32) (v7 : Int32), L_X3_test_39 n m a1 a4 k f v5 v6 v7 = some v → gn_Go RX3 cX3_test 9 3 72 (some .int) none 39 [some (.ref 0), some (.int a1), none, none, some (.int a4), some (.int v5), some (.int v6), some (.int v7), none] [] m (some (.int v.1)) v.2 := by
  intro f
  induction f with
  | zero =>
    intro v5 v6 v7 h
    cases h
  | succ f ih =>
    intro v5 v6 v7 h
    rw [L_X3_test_39] at h
    refine gr_iload dX3_test_39 rfl ?_
    refine gr_iconst dX3_test_41 gk_i_1 ?_
    refine gr_aload_n dX3_test_42 rfl rfl ?_
    refine gr_getR q_0_2 fl_X3_24 dX3_test_43 ?_
    refine gr_getIN q_7_6 fl_X3_126 dX3_test_46 ?_
    refine gr_ishl dX3_test_49 ?_
    refine gr_icmp_ge (tgt := 84) dX3_test_50 (by decide) h (fun _ h => ?_) (fun _ h => ?_)
    · refine gr_iload dX3_test_53 rfl ?_
      refine gr_iload_n dX3_test_55 rfl rfl ?_
      refine gr_iload dX3_test_56 rfl ?_
      obtain ⟨x3, hx3, h⟩ := gn_bd h
      refine gc_SI (c_X3_greatestPart hx3) my_X3_greatestPart ms_X3_greatestPart ml_X3_259 rfl rfl ⟨Nat.le_of_ble_eq_true rfl, Nat.le_of_ble_eq_true rfl⟩ (Nat.le_of_ble_eq_true rfl) dX3_test_58 (fun fx3 => ?_)
      refine gr_istore (lv' := [some (.ref 0), some (.int a1), none, none, some (.int a4), some (.int v5), some (.int v6), some (.int v7), some (.int x3)]) dX3_test_61 (by decide) rfl ?_
      refine gr_iload dX3_test_63 rfl ?_
      refine gr_iload dX3_test_65 rfl ?_
      refine gr_icmp_ge (tgt := 78) dX3_test_67 (by decide) h (fun _ h => ?_) (fun _ h => ?_)
      · refine gr_iload dX3_test_70 rfl ?_
        refine gr_istore (lv' := [some (.ref 0), some (.int a1), none, none, some (.int a4), some (.int v7), some (.int v6), some (.int v7), some (.int x3)]) dX3_test_72 (by decide) rfl ?_
        refine gr_iload dX3_test_74 rfl ?_
        refine gr_istore (lv' := [some (.ref 0), some (.int a1), none, none, some (.int a4), some (.int v7), some (.int x3), some (.int v7), some (.int x3)]) dX3_test_76 (by decide) rfl ?_
        refine gr_iinc (lv' := [some (.ref 0), some (.int a1), none, none, some (.int a4), some (.int v7), some (.int x3), some (.int (v7 + (1 : Int32))), some (.int x3)]) dX3_test_78 rfl gk_i_1 (by decide) rfl ?_
        refine gr_goto (tgt := 39) dX3_test_81 (by decide) ?_
        refine gn_wkn [true, true, false, false, true, true, true, true, false] rfl ?_
        exact ih _ _ _ h
      · refine gr_iinc (lv' := [some (.ref 0), some (.int a1), none, none, some (.int a4), some (.int v5), some (.int v6), some (.int (v7 + (1 : Int32))), some (.int x3)]) dX3_test_78 rfl gk_i_1 (by decide) rfl ?_
        refine gr_goto (tgt := 39) dX3_test_81 (by decide) ?_
        refine gn_wkn [true, true, false, false, true, true, true, true, false] rfl ?_
        exact ih _ _ _ h
    · refine gn_wkn [true, false, false, false, false, true, true, false, false] rfl ?_
      exact hk _ _ h
def f_X3_test (n : Nat) (m : gn_M) (p0 : Int32) (p1 : Int32) : Option (Int32 × gn_M) := (f_X3_refusalOfPairs n m p0 p1).bind (fun x1 => (if x1.1 = 0 then (f_X3_kindsByPairs n x1.2 p0 p1).bind (fun x2 => (if x2 = 0 then some ((-9 : Int32), x1.2) else L_X3_test_39 n x1.2 p0 x2 (fun (e4 : Int32) (e5 : Int32) => (f_X3_toldAside x1.2 e4 e5).bind (fun x6 => some (x6.1, x6.2))) n (0 : Int32) (7 : Int32) (0 : Int32))) else some (x1.1, x1.2)))
set_option maxRecDepth 100000 in
set_option maxHeartbeats 4000000 in
theorem c_X3_test {n : Nat} {m : gn_M} {p0 : Int32} {p1 : Int32} {v : Int32 × gn_M} (h : f_X3_test n m p0 p1 = some v) : gn_Cl yX3_test cX3_test 9 (some .int) 3 72 [.ref 0, .int p0, .int p1] m (some (.int v.1)) v.2 := by
  rw [f_X3_test] at h
  refine gn_met (lv := [some (.ref 0), some (.int p0), some (.int p1), none, none, none, none, none, none]) pl_X3 rfl rfl (Nat.le_of_ble_eq_true rfl) ?_
  refine gr_aload_n dX3_test_0 rfl rfl ?_
  refine gr_iload_n dX3_test_1 rfl rfl ?_
  refine gr_iload_n dX3_test_2 rfl rfl ?_
  obtain ⟨x1, hx1, h⟩ := gn_bd h
  refine gc_VI (c_X3_refusalOfPairs hx1) my_X3_refusalOfPairs mv_X3_refusalOfPairs ob_0 ml_X3_253 rfl rfl ⟨Nat.le_of_ble_eq_true rfl, Nat.le_of_ble_eq_true rfl⟩ (Nat.le_of_ble_eq_true rfl) dX3_test_3 (fun fx1 => ?_)
  refine gr_istore_n (lv' := [some (.ref 0), some (.int p0), some (.int p1), some (.int x1.1), none, none, none, none, none]) dX3_test_6 rfl (by decide) rfl ?_
  refine gr_iload_n dX3_test_7 rfl rfl ?_
  refine gr_if_eq (tgt := 13) dX3_test_8 (by decide) h (fun _ h => ?_) (fun _ h => ?_)
  · refine gr_aload_n dX3_test_13 rfl rfl ?_
    refine gr_iload_n dX3_test_14 rfl rfl ?_
    refine gr_iload_n dX3_test_15 rfl rfl ?_
    obtain ⟨x2, hx2, h⟩ := gn_bd h
    refine gc_VI (c_X3_kindsByPairs hx2) my_X3_kindsByPairs mv_X3_kindsByPairs ob_0 ml_X3_256 rfl rfl ⟨Nat.le_of_ble_eq_true rfl, Nat.le_of_ble_eq_true rfl⟩ (Nat.le_of_ble_eq_true rfl) dX3_test_16 (fun fx2 => ?_)
    refine gr_istore (lv' := [some (.ref 0), some (.int p0), some (.int p1), some (.int x1.1), some (.int x2), none, none, none, none]) dX3_test_19 (by decide) rfl ?_
    refine gr_iload dX3_test_21 rfl ?_
    refine gr_if_ne (tgt := 29) dX3_test_23 (by decide) h (fun _ h => ?_) (fun _ h => ?_)
    · refine gr_bipush dX3_test_26 gk_b_m9 ?_
      exact gq_retIM dX3_test_28 rfl h
    · refine gr_iconst dX3_test_29 gk_i_0 ?_
      refine gr_istore (lv' := [some (.ref 0), some (.int p0), some (.int p1), some (.int x1.1), some (.int x2), some (.int (0 : Int32)), none, none, none]) dX3_test_30 (by decide) rfl ?_
      refine gr_bipush dX3_test_32 gk_b_7 ?_
      refine gr_istore (lv' := [some (.ref 0), some (.int p0), some (.int p1), some (.int x1.1), some (.int x2), some (.int (0 : Int32)), some (.int (7 : Int32)), none, none]) dX3_test_34 (by decide) rfl ?_
      refine gr_iconst dX3_test_36 gk_i_0 ?_
      refine gr_istore (lv' := [some (.ref 0), some (.int p0), some (.int p1), some (.int x1.1), some (.int x2), some (.int (0 : Int32)), some (.int (7 : Int32)), some (.int (0 : Int32)), none]) dX3_test_37 (by decide) rfl ?_
      refine gn_wkn [true, true, false, false, true, true, true, true, false] rfl ?_
      refine l_X3_test_39 (fun e4 e5 h => ?_) _ _ _ _ h
      refine gr_aload_n dX3_test_84 rfl rfl ?_
      refine gr_iload dX3_test_85 rfl ?_
      refine gr_iload dX3_test_87 rfl ?_
      obtain ⟨x6, hx6, h⟩ := gn_bd h
      refine gc_VI (c_X3_toldAside hx6) my_X3_toldAside mv_X3_toldAside ob_0 ml_X3_250 rfl rfl ⟨Nat.le_of_ble_eq_true rfl, Nat.le_of_ble_eq_true rfl⟩ (Nat.le_of_ble_eq_true rfl) dX3_test_89 (fun fx6 => ?_)
      exact gq_retIM dX3_test_92 rfl h
  · refine gr_iload_n dX3_test_11 rfl rfl ?_
    exact gq_retIM dX3_test_12 rfl h
def L_X1_winningMove_2 (n : Nat) (m : gn_M) (a1 : Int32) (a2 : Int32) (k : Unit → Option (Int32)) : Nat → Int32 → Option (Int32)
  | 0, _ => none
  | f + 1, v3 => (if v3 < (m.1 8 5) then (f_X3_isIn (a1 &&& a2) v3).bind (fun x1 => (if x1 = 0 then L_X1_winningMove_2 n m a1 a2 k f (v3 + (1 : Int32)) else gn_rd m 36 128 (a1 &&& (((1 : Int32) <<< (v3 &&& 31)) ^^^ (-1 : Int32))) (fun x2 => (f_X3_isIn x2 v3).bind (fun x3 => (if x3 = 0 then some v3 else L_X1_winningMove_2 n m a1 a2 k f (v3 + (1 : Int32))))))) else k ())
set_option maxRecDepth 100000 in
set_option maxHeartbeats 4000000 in
theorem l_X1_winningMove_2 {n : Nat} {m : gn_M} {a1 : Int32} {a2 : Int32} {k : Unit → Option (Int32)} {v : Int32} (hk : ∀ (u : Unit), k u = some v → gn_Go RX1 cX1_winningMove 4 1 21 (some .int) none 47 [none, none, none, none] [] m (some (.int v)) m) : ∀ (f : Nat) (v3 : Int32), L_X1_winningMove_2 n m a1 a2 k f v3 = some v → gn_Go RX1 cX1_winningMove 4 1 21 (some .int) none 2 [some (.ref 8), some (.int a1), some (.int a2), some (.int v3)] [] m (some (.int v)) m := by
  intro f
  induction f with
  | zero =>
    intro v3 h
    cases h
  | succ f ih =>
    intro v3 h
    rw [L_X1_winningMove_2] at h
    refine gr_iload_n dX1_winningMove_2 rfl rfl ?_
    refine gr_aload_n dX1_winningMove_3 rfl rfl ?_
    refine gr_getI q_8_5 fl_X1_27 dX1_winningMove_4 ?_
    refine gr_icmp_ge (tgt := 47) dX1_winningMove_7 (by decide) h (fun _ h => ?_) (fun _ h => ?_)
    · refine gr_iload_n dX1_winningMove_10 rfl rfl ?_
      refine gr_iload_n dX1_winningMove_11 rfl rfl ?_
      refine gr_iand dX1_winningMove_12 ?_
      refine gr_iload_n dX1_winningMove_13 rfl rfl ?_
      obtain ⟨x1, hx1, h⟩ := gn_bd h
      refine gc_SNI (c_X3_isIn hx1) my_X3_isIn ms_X3_isIn ml_X1_60 rfl rfl ⟨Nat.le_of_ble_eq_true rfl, Nat.le_of_ble_eq_true rfl⟩ (Nat.le_of_ble_eq_true rfl) dX1_winningMove_14 (fun fx1 => ?_)
      refine gr_if_eq (tgt := 41) dX1_winningMove_17 (by decide) h (fun _ h => ?_) (fun _ h => ?_)
      · refine gr_iinc (lv' := [some (.ref 8), some (.int a1), some (.int a2), some (.int (v3 + (1 : Int32)))]) dX1_winningMove_41 rfl gk_i_1 (by decide) rfl ?_
        refine gr_goto (tgt := 2) dX1_winningMove_44 (by decide) ?_
        exact ih _ h
      · refine gr_aload_n dX1_winningMove_20 rfl rfl ?_
        refine gr_getR q_8_3 fl_X1_21 dX1_winningMove_21 ?_
        refine gr_iload_n dX1_winningMove_24 rfl rfl ?_
        refine gr_iconst dX1_winningMove_25 gk_i_1 ?_
        refine gr_iload_n dX1_winningMove_26 rfl rfl ?_
        refine gr_ishl dX1_winningMove_27 ?_
        refine gr_iconst dX1_winningMove_28 gk_i_m1 ?_
        refine gr_ixor dX1_winningMove_29 ?_
        refine gr_iand dX1_winningMove_30 ?_
        refine gq_iaload s_36 dX1_winningMove_31 h (fun x2 h => ?_)
        refine gr_iload_n dX1_winningMove_32 rfl rfl ?_
        obtain ⟨x3, hx3, h⟩ := gn_bd h
        refine gc_SNI (c_X3_isIn hx3) my_X3_isIn ms_X3_isIn ml_X1_60 rfl rfl ⟨Nat.le_of_ble_eq_true rfl, Nat.le_of_ble_eq_true rfl⟩ (Nat.le_of_ble_eq_true rfl) dX1_winningMove_33 (fun fx3 => ?_)
        refine gr_if_ne (tgt := 41) dX1_winningMove_36 (by decide) h (fun _ h => ?_) (fun _ h => ?_)
        · refine gr_iload_n dX1_winningMove_39 rfl rfl ?_
          exact gq_retI dX1_winningMove_40 rfl h
        · refine gr_iinc (lv' := [some (.ref 8), some (.int a1), some (.int a2), some (.int (v3 + (1 : Int32)))]) dX1_winningMove_41 rfl gk_i_1 (by decide) rfl ?_
          refine gr_goto (tgt := 2) dX1_winningMove_44 (by decide) ?_
          exact ih _ h
    · refine gn_wkn [false, false, false, false] rfl ?_
      exact hk _ h
def f_X1_winningMove (n : Nat) (m : gn_M) (p0 : Int32) (p1 : Int32) : Option (Int32) := L_X1_winningMove_2 n m p0 p1 (fun (_ : Unit) => some (-9 : Int32)) n (0 : Int32)
set_option maxRecDepth 100000 in
set_option maxHeartbeats 4000000 in
theorem c_X1_winningMove {n : Nat} {m : gn_M} {p0 : Int32} {p1 : Int32} {v : Int32} (h : f_X1_winningMove n m p0 p1 = some v) : gn_Cl yX1_winningMove cX1_winningMove 4 (some .int) 1 21 [.ref 8, .int p0, .int p1] m (some (.int v)) m := by
  rw [f_X1_winningMove] at h
  refine gn_met (lv := [some (.ref 8), some (.int p0), some (.int p1), none]) pl_X1 rfl rfl (Nat.le_of_ble_eq_true rfl) ?_
  refine gr_iconst dX1_winningMove_0 gk_i_0 ?_
  refine gr_istore_n (lv' := [some (.ref 8), some (.int p0), some (.int p1), some (.int (0 : Int32))]) dX1_winningMove_1 rfl (by decide) rfl ?_
  refine l_X1_winningMove_2 (fun _ h => ?_) _ _ h
  refine gr_bipush dX1_winningMove_47 gk_b_m9 ?_
  exact gq_retI dX1_winningMove_49 rfl h
def L_X1_winnersAt_4 (n : Nat) (m : gn_M) (a1 : Int32) (k : Int32 → Option (Int32)) : Nat → Int32 → Int32 → Option (Int32)
  | 0, _, _ => none
  | f + 1, v2, v3 => (if v3 < (m.1 8 5) then (f_X3_isIn ((m.1 8 6) &&& (a1 ^^^ (-1 : Int32))) v3).bind (fun x1 => (if x1 = 0 then L_X1_winnersAt_4 n m a1 k f v2 (v3 + (1 : Int32)) else gn_rd m 33 7 v3 (fun x2 => (f_X1_winningMove n m a1 x2).bind (fun x3 => (if x3 = (-9 : Int32) then L_X1_winnersAt_4 n m a1 k f v2 (v3 + (1 : Int32)) else L_X1_winnersAt_4 n m a1 k f (v2 ||| ((1 : Int32) <<< (v3 &&& 31))) (v3 + (1 : Int32))))))) else k v2)
set_option maxRecDepth 100000 in
set_option maxHeartbeats 4000000 in
theorem l_X1_winnersAt_4 {n : Nat} {m : gn_M} {a1 : Int32} {k : Int32 → Option (Int32)} {v : Int32} (hk : ∀ (e2 : Int32), k e2 = some v → gn_Go RX1 cX1_winnersAt 4 2 44 (some .int) none 55 [none, none, some (.int e2), none] [] m (some (.int v)) m) : ∀ (f : Nat) (v2 : Int32) (v3 : Int32), L_X1_winnersAt_4 n m a1 k f v2 v3 = some v → gn_Go RX1 cX1_winnersAt 4 2 44 (some .int) none 4 [some (.ref 8), some (.int a1), some (.int v2), some (.int v3)] [] m (some (.int v)) m := by
  intro f
  induction f with
  | zero =>
    intro v2 v3 h
    cases h
  | succ f ih =>
    intro v2 v3 h
    rw [L_X1_winnersAt_4] at h
    refine gr_iload_n dX1_winnersAt_4 rfl rfl ?_
    refine gr_aload_n dX1_winnersAt_5 rfl rfl ?_
    refine gr_getI q_8_5 fl_X1_27 dX1_winnersAt_6 ?_
    refine gr_icmp_ge (tgt := 55) dX1_winnersAt_9 (by decide) h (fun _ h => ?_) (fun _ h => ?_)
    · refine gr_aload_n dX1_winnersAt_12 rfl rfl ?_
      refine gr_getI q_8_6 fl_X1_31 dX1_winnersAt_13 ?_
      refine gr_iload_n dX1_winnersAt_16 rfl rfl ?_
      refine gr_iconst dX1_winnersAt_17 gk_i_m1 ?_
      refine gr_ixor dX1_winnersAt_18 ?_
      refine gr_iand dX1_winnersAt_19 ?_
      refine gr_iload_n dX1_winnersAt_20 rfl rfl ?_
      obtain ⟨x1, hx1, h⟩ := gn_bd h
      refine gc_SNI (c_X3_isIn hx1) my_X3_isIn ms_X3_isIn ml_X1_60 rfl rfl ⟨Nat.le_of_ble_eq_true rfl, Nat.le_of_ble_eq_true rfl⟩ (Nat.le_of_ble_eq_true rfl) dX1_winnersAt_21 (fun fx1 => ?_)
      refine gr_if_eq (tgt := 49) dX1_winnersAt_24 (by decide) h (fun _ h => ?_) (fun _ h => ?_)
      · refine gr_iinc (lv' := [some (.ref 8), some (.int a1), some (.int v2), some (.int (v3 + (1 : Int32)))]) dX1_winnersAt_49 rfl gk_i_1 (by decide) rfl ?_
        refine gr_goto (tgt := 4) dX1_winnersAt_52 (by decide) ?_
        exact ih _ _ h
      · refine gr_aload_n dX1_winnersAt_27 rfl rfl ?_
        refine gr_iload_n dX1_winnersAt_28 rfl rfl ?_
        refine gr_aload_n dX1_winnersAt_29 rfl rfl ?_
        refine gr_getR q_8_0 fl_X1_9 dX1_winnersAt_30 ?_
        refine gr_iload_n dX1_winnersAt_33 rfl rfl ?_
        refine gq_iaload s_33 dX1_winnersAt_34 h (fun x2 h => ?_)
        obtain ⟨x3, hx3, h⟩ := gn_bd h
        refine gc_VI (c_X1_winningMove hx3) my_X1_winningMove mv_X1_winningMove ob_8 ml_X1_108 rfl rfl ⟨Nat.le_of_ble_eq_true rfl, Nat.le_of_ble_eq_true rfl⟩ (Nat.le_of_ble_eq_true rfl) dX1_winnersAt_35 (fun fx3 => ?_)
        refine gr_bipush dX1_winnersAt_38 gk_b_m9 ?_
        refine gr_icmp_eq (tgt := 49) dX1_winnersAt_40 (by decide) h (fun _ h => ?_) (fun _ h => ?_)
        · refine gr_iinc (lv' := [some (.ref 8), some (.int a1), some (.int v2), some (.int (v3 + (1 : Int32)))]) dX1_winnersAt_49 rfl gk_i_1 (by decide) rfl ?_
          refine gr_goto (tgt := 4) dX1_winnersAt_52 (by decide) ?_
          exact ih _ _ h
        · refine gr_iload_n dX1_winnersAt_43 rfl rfl ?_
          refine gr_iconst dX1_winnersAt_44 gk_i_1 ?_
          refine gr_iload_n dX1_winnersAt_45 rfl rfl ?_
          refine gr_ishl dX1_winnersAt_46 ?_
          refine gr_ior dX1_winnersAt_47 ?_
          refine gr_istore_n (lv' := [some (.ref 8), some (.int a1), some (.int (v2 ||| ((1 : Int32) <<< (v3 &&& 31)))), some (.int v3)]) dX1_winnersAt_48 rfl (by decide) rfl ?_
          refine gr_iinc (lv' := [some (.ref 8), some (.int a1), some (.int (v2 ||| ((1 : Int32) <<< (v3 &&& 31)))), some (.int (v3 + (1 : Int32)))]) dX1_winnersAt_49 rfl gk_i_1 (by decide) rfl ?_
          refine gr_goto (tgt := 4) dX1_winnersAt_52 (by decide) ?_
          exact ih _ _ h
    · refine gn_wkn [false, false, true, false] rfl ?_
      exact hk _ h
def f_X1_winnersAt (n : Nat) (m : gn_M) (p0 : Int32) : Option (Int32) := L_X1_winnersAt_4 n m p0 (fun (e4 : Int32) => some e4) n (0 : Int32) (0 : Int32)
set_option maxRecDepth 100000 in
set_option maxHeartbeats 4000000 in
theorem c_X1_winnersAt {n : Nat} {m : gn_M} {p0 : Int32} {v : Int32} (h : f_X1_winnersAt n m p0 = some v) : gn_Cl yX1_winnersAt cX1_winnersAt 4 (some .int) 2 44 [.ref 8, .int p0] m (some (.int v)) m := by
  rw [f_X1_winnersAt] at h
  refine gn_met (lv := [some (.ref 8), some (.int p0), none, none]) pl_X1 rfl rfl (Nat.le_of_ble_eq_true rfl) ?_
  refine gr_iconst dX1_winnersAt_0 gk_i_0 ?_
  refine gr_istore_n (lv' := [some (.ref 8), some (.int p0), some (.int (0 : Int32)), none]) dX1_winnersAt_1 rfl (by decide) rfl ?_
  refine gr_iconst dX1_winnersAt_2 gk_i_0 ?_
  refine gr_istore_n (lv' := [some (.ref 8), some (.int p0), some (.int (0 : Int32)), some (.int (0 : Int32))]) dX1_winnersAt_3 rfl (by decide) rfl ?_
  refine l_X1_winnersAt_4 (fun e4 h => ?_) _ _ _ h
  refine gr_iload_n dX1_winnersAt_55 rfl rfl ?_
  exact gq_retI dX1_winnersAt_56 rfl h
def L_X1_winningGoer_2 (n : Nat) (k : gn_M → Option (Int32 × gn_M)) : Nat → Int32 → gn_M → Option (Int32 × gn_M)
  | 0, _, _ => none
  | f + 1, v1, m => (if v1 < (m.1 8 6) then (f_X1_within m v1).bind (fun x1 => (if x1 = 0 then L_X1_winningGoer_2 n k f (v1 + (1 : Int32)) m else (f_X1_winnersAt n m v1).bind (fun x2 => gn_wr m 36 128 v1 x2 (fun m3 => L_X1_winningGoer_2 n k f (v1 + (1 : Int32)) m3)))) else k m)
set_option maxRecDepth 100000 in
set_option maxHeartbeats 4000000 in
theorem l_X1_winningGoer_2 {n : Nat} {k : gn_M → Option (Int32 × gn_M)} {v : Int32 × gn_M} (hk : ∀ (m1 : gn_M), k m1 = some v → gn_Go RX1 cX1_winningGoer 2 3 67 (some .int) none 35 [some (.ref 8), none] [] m1 (some (.int v.1)) v.2) : ∀ (f : Nat) (v1 : Int32) (m : gn_M), L_X1_winningGoer_2 n k f v1 m = some v → gn_Go RX1 cX1_winningGoer 2 3 67 (some .int) none 2 [some (.ref 8), some (.int v1)] [] m (some (.int v.1)) v.2 := by
  intro f
  induction f with
  | zero =>
    intro v1 m h
    cases h
  | succ f ih =>
    intro v1 m h
    rw [L_X1_winningGoer_2] at h
    refine gr_iload_n dX1_winningGoer_2 rfl rfl ?_
    refine gr_aload_n dX1_winningGoer_3 rfl rfl ?_
    refine gr_getI q_8_6 fl_X1_31 dX1_winningGoer_4 ?_
    refine gr_icmp_ge (tgt := 35) dX1_winningGoer_7 (by decide) h (fun _ h => ?_) (fun _ h => ?_)
    · refine gr_aload_n dX1_winningGoer_10 rfl rfl ?_
      refine gr_iload_n dX1_winningGoer_11 rfl rfl ?_
      obtain ⟨x1, hx1, h⟩ := gn_bd h
      refine gc_VI (c_X1_within hx1) my_X1_within mv_X1_within ob_8 ml_X1_73 rfl rfl ⟨Nat.le_of_ble_eq_true rfl, Nat.le_of_ble_eq_true rfl⟩ (Nat.le_of_ble_eq_true rfl) dX1_winningGoer_12 (fun fx1 => ?_)
      refine gr_if_eq (tgt := 29) dX1_winningGoer_15 (by decide) h (fun _ h => ?_) (fun _ h => ?_)
      · refine gr_iinc (lv' := [some (.ref 8), some (.int (v1 + (1 : Int32)))]) dX1_winningGoer_29 rfl gk_i_1 (by decide) rfl ?_
        refine gr_goto (tgt := 2) dX1_winningGoer_32 (by decide) ?_
        exact ih _ _ h
      · refine gr_aload_n dX1_winningGoer_18 rfl rfl ?_
        refine gr_getR q_8_3 fl_X1_21 dX1_winningGoer_19 ?_
        refine gr_iload_n dX1_winningGoer_22 rfl rfl ?_
        refine gr_aload_n dX1_winningGoer_23 rfl rfl ?_
        refine gr_iload_n dX1_winningGoer_24 rfl rfl ?_
        obtain ⟨x2, hx2, h⟩ := gn_bd h
        refine gc_VI (c_X1_winnersAt hx2) my_X1_winnersAt mv_X1_winnersAt ob_8 ml_X1_105 rfl rfl ⟨Nat.le_of_ble_eq_true rfl, Nat.le_of_ble_eq_true rfl⟩ (Nat.le_of_ble_eq_true rfl) dX1_winningGoer_25 (fun fx2 => ?_)
        refine gq_iastore s_36 dX1_winningGoer_28 h (fun m3 h => ?_)
        refine gr_iinc (lv' := [some (.ref 8), some (.int (v1 + (1 : Int32)))]) dX1_winningGoer_29 rfl gk_i_1 (by decide) rfl ?_
        refine gr_goto (tgt := 2) dX1_winningGoer_32 (by decide) ?_
        exact ih _ _ h
    · refine gn_wkn [true, false] rfl ?_
      exact hk _ h
def f_X1_winningGoer (n : Nat) (m : gn_M) : Option (Int32 × gn_M) := L_X1_winningGoer_2 n (fun (m4 : gn_M) => (f_X1_winningMove n m4 (m4.1 8 6) (m4.1 8 7)).bind (fun x5 => some (x5, m4))) n (0 : Int32) m
set_option maxRecDepth 100000 in
set_option maxHeartbeats 4000000 in
theorem c_X1_winningGoer {n : Nat} {m : gn_M} {v : Int32 × gn_M} (h : f_X1_winningGoer n m = some v) : gn_Cl yX1_winningGoer cX1_winningGoer 2 (some .int) 3 67 [.ref 8] m (some (.int v.1)) v.2 := by
  rw [f_X1_winningGoer] at h
  refine gn_met (lv := [some (.ref 8), none]) pl_X1 rfl rfl (Nat.le_of_ble_eq_true rfl) ?_
  refine gr_iconst dX1_winningGoer_0 gk_i_0 ?_
  refine gr_istore_n (lv' := [some (.ref 8), some (.int (0 : Int32))]) dX1_winningGoer_1 rfl (by decide) rfl ?_
  refine l_X1_winningGoer_2 (fun m4 h => ?_) _ _ _ h
  refine gr_aload_n dX1_winningGoer_35 rfl rfl ?_
  refine gr_aload_n dX1_winningGoer_36 rfl rfl ?_
  refine gr_getI q_8_6 fl_X1_31 dX1_winningGoer_37 ?_
  refine gr_aload_n dX1_winningGoer_40 rfl rfl ?_
  refine gr_getI q_8_7 fl_X1_34 dX1_winningGoer_41 ?_
  obtain ⟨x5, hx5, h⟩ := gn_bd h
  refine gc_VI (c_X1_winningMove hx5) my_X1_winningMove mv_X1_winningMove ob_8 ml_X1_108 rfl rfl ⟨Nat.le_of_ble_eq_true rfl, Nat.le_of_ble_eq_true rfl⟩ (Nat.le_of_ble_eq_true rfl) dX1_winningGoer_44 (fun fx5 => ?_)
  exact gq_retIM dX1_winningGoer_47 rfl h
def f_X3_duel (n : Nat) (m : gn_M) : Option (Int32 × gn_M) := (if (m.1 7 6) = 0 then some ((-4 : Int32), m) else (f_X1_survey n m 30).bind (fun x1 => (f_X1_winningGoer n x1).bind (fun x2 => gn_pf x2.2 0 10 x2.1 (fun m3 => (if (m3.1 0 10) = (-9 : Int32) then some ((0 : Int32), m3) else some ((1 : Int32), m3))))))
set_option maxRecDepth 100000 in
set_option maxHeartbeats 4000000 in
theorem c_X3_duel {n : Nat} {m : gn_M} {v : Int32 × gn_M} (h : f_X3_duel n m = some v) : gn_Cl yX3_duel cX3_duel 1 (some .int) 4 88 [.ref 0] m (some (.int v.1)) v.2 := by
  rw [f_X3_duel] at h
  refine gn_met (lv := [some (.ref 0)]) pl_X3 rfl rfl (Nat.le_of_ble_eq_true rfl) ?_
  refine gr_aload_n dX3_duel_0 rfl rfl ?_
  refine gr_getR q_0_2 fl_X3_24 dX3_duel_1 ?_
  refine gr_getIN q_7_6 fl_X3_126 dX3_duel_4 ?_
  refine gr_if_ne (tgt := 13) dX3_duel_7 (by decide) h (fun _ h => ?_) (fun _ h => ?_)
  · refine gr_bipush dX3_duel_10 gk_b_m4 ?_
    exact gq_retIM dX3_duel_12 rfl h
  · refine gr_aload_n dX3_duel_13 rfl rfl ?_
    refine gr_getR q_0_3 fl_X3_31 dX3_duel_14 ?_
    refine gr_aload_n dX3_duel_17 rfl rfl ?_
    refine gr_getR q_0_2 fl_X3_24 dX3_duel_18 ?_
    refine gr_aload_n dX3_duel_21 rfl rfl ?_
    refine gr_getR q_0_2 fl_X3_24 dX3_duel_22 ?_
    refine gr_getRN q_7_3 fl_X3_203 dX3_duel_25 ?_
    obtain ⟨x1, hx1, h⟩ := gn_bd h
    refine gc_VN0 (c_X1_survey s_30 hx1) my_X1_survey mv_X1_survey ob_8 ml_X3_206 rfl rfl ⟨Nat.le_of_ble_eq_true rfl, Nat.le_of_ble_eq_true rfl⟩ (Nat.le_of_ble_eq_true rfl) dX3_duel_28 (fun fx1 => ?_)
    refine gr_aload_n dX3_duel_31 rfl rfl ?_
    refine gr_aload_n dX3_duel_32 rfl rfl ?_
    refine gr_getR q_0_3 fl_X3_31 dX3_duel_33 ?_
    obtain ⟨x2, hx2, h⟩ := gn_bd h
    refine gc_VNI (c_X1_winningGoer hx2) my_X1_winningGoer mv_X1_winningGoer ob_8 ml_X3_262 rfl rfl ⟨Nat.le_of_ble_eq_true rfl, Nat.le_of_ble_eq_true rfl⟩ (Nat.le_of_ble_eq_true rfl) dX3_duel_36 (fun fx2 => ?_)
    refine gq_putI q_0_10 rfl rfl fl_X3_57 dX3_duel_39 h (fun m3 h => ?_)
    refine gr_aload_n dX3_duel_42 rfl rfl ?_
    refine gr_getI q_0_10 fl_X3_57 dX3_duel_43 ?_
    refine gr_bipush dX3_duel_46 gk_b_m9 ?_
    refine gr_icmp_ne (tgt := 55) dX3_duel_48 (by decide) h (fun _ h => ?_) (fun _ h => ?_)
    · refine gr_iconst dX3_duel_51 gk_i_0 ?_
      refine gr_goto (tgt := 56) dX3_duel_52 (by decide) ?_
      exact gq_retIM dX3_duel_56 rfl h
    · refine gr_iconst dX3_duel_55 gk_i_1 ?_
      exact gq_retIM dX3_duel_56 rfl h
def L_X3_power_5 (n : Nat) (a0 : Int32) (a1 : Int32) (k : Int64 → Option (Int64)) : Nat → Int64 → Int32 → Option (Int64)
  | 0, _, _ => none
  | f + 1, v2, v4 => (if v4 < a1 then L_X3_power_5 n a0 a1 k f (v2 * a0.toInt64) (v4 + (1 : Int32)) else k v2)
set_option maxRecDepth 100000 in
set_option maxHeartbeats 4000000 in
theorem l_X3_power_5 {n : Nat} {m : gn_M} {a0 : Int32} {a1 : Int32} {k : Int64 → Option (Int64)} {v : Int64} (hk : ∀ (e2 : Int64), k e2 = some v → gn_Go RX3 cX3_power 5 0 0 (some .long) none 22 [none, none, some (.long e2), none, none] [] m (some (.long v)) m) : ∀ (f : Nat) (v2 : Int64) (v4 : Int32), L_X3_power_5 n a0 a1 k f v2 v4 = some v → gn_Go RX3 cX3_power 5 0 0 (some .long) none 5 [some (.int a0), some (.int a1), some (.long v2), none, some (.int v4)] [] m (some (.long v)) m := by
  intro f
  induction f with
  | zero =>
    intro v2 v4 h
    cases h
  | succ f ih =>
    intro v2 v4 h
    rw [L_X3_power_5] at h
    refine gr_iload dX3_power_5 rfl ?_
    refine gr_iload_n dX3_power_7 rfl rfl ?_
    refine gr_icmp_ge (tgt := 22) dX3_power_8 (by decide) h (fun _ h => ?_) (fun _ h => ?_)
    · refine gr_lload_n dX3_power_11 rfl rfl ?_
      refine gr_iload_n dX3_power_12 rfl rfl ?_
      refine gr_i2l dX3_power_13 ?_
      refine gr_lmul dX3_power_14 ?_
      refine gr_lstore_n (lv' := [some (.int a0), some (.int a1), some (.long (v2 * a0.toInt64)), none, some (.int v4)]) dX3_power_15 rfl (by decide) rfl ?_
      refine gr_iinc (lv' := [some (.int a0), some (.int a1), some (.long (v2 * a0.toInt64)), none, some (.int (v4 + (1 : Int32)))]) dX3_power_16 rfl gk_i_1 (by decide) rfl ?_
      refine gr_goto (tgt := 5) dX3_power_19 (by decide) ?_
      exact ih _ _ h
    · refine gn_wkn [false, false, true, false, false] rfl ?_
      exact hk _ h
def f_X3_power (n : Nat) (p0 : Int32) (p1 : Int32) : Option (Int64) := L_X3_power_5 n p0 p1 (fun (e1 : Int64) => some e1) n (1 : Int64) (0 : Int32)
set_option maxRecDepth 100000 in
set_option maxHeartbeats 4000000 in
theorem c_X3_power {n : Nat} {m : gn_M} {p0 : Int32} {p1 : Int32} {v : Int64} (h : f_X3_power n p0 p1 = some v) : gn_Cl yX3_power cX3_power 5 (some .long) 0 0 [.int p0, .int p1] m (some (.long v)) m := by
  rw [f_X3_power] at h
  refine gn_met (lv := [some (.int p0), some (.int p1), none, none, none]) pl_X3 rfl rfl (Nat.le_of_ble_eq_true rfl) ?_
  refine gr_lconst dX3_power_0 gk_l_1 ?_
  refine gr_lstore_n (lv' := [some (.int p0), some (.int p1), some (.long (1 : Int64)), none, none]) dX3_power_1 rfl (by decide) rfl ?_
  refine gr_iconst dX3_power_2 gk_i_0 ?_
  refine gr_istore (lv' := [some (.int p0), some (.int p1), some (.long (1 : Int64)), none, some (.int (0 : Int32))]) dX3_power_3 (by decide) rfl ?_
  refine l_X3_power_5 (fun e1 h => ?_) _ _ _ h
  refine gr_lload_n dX3_power_22 rfl rfl ?_
  exact gq_retL dX3_power_23 trivial h
def f_X3_weightOf (n : Nat) (m : gn_M) (p0 : Int32) (p1 : Int32) : Option (Int64) := (f_J6_bitCount_0f7a4 p0).bind (fun x1 => (f_J6_bitCount_0f7a4 (m.1 8 6)).bind (fun x2 => (f_X3_power n ((12 : Int32) - p1) x1).bind (fun x3 => (f_X3_power n p1 (x2 - x1)).bind (fun x4 => some (x3 * x4)))))
set_option maxRecDepth 100000 in
set_option maxHeartbeats 4000000 in
theorem c_X3_weightOf {n : Nat} {m : gn_M} {p0 : Int32} {p1 : Int32} {v : Int64} (h : f_X3_weightOf n m p0 p1 = some v) : gn_Cl yX3_weightOf cX3_weightOf 5 (some .long) 1 24 [.ref 0, .int p0, .int p1] m (some (.long v)) m := by
  rw [f_X3_weightOf] at h
  refine gn_met (lv := [some (.ref 0), some (.int p0), some (.int p1), none, none]) pl_X3 rfl rfl (Nat.le_of_ble_eq_true rfl) ?_
  refine gr_iload_n dX3_weightOf_0 rfl rfl ?_
  obtain ⟨x1, hx1, h⟩ := gn_bd h
  refine gc_SI (c_J6_bitCount_0f7a4 hx1) my_J6_bitCount_0f7a4 ms_J6_bitCount_0f7a4 ml_X3_140 rfl rfl ⟨Nat.le_of_ble_eq_true rfl, Nat.le_of_ble_eq_true rfl⟩ (Nat.le_of_ble_eq_true rfl) dX3_weightOf_1 (fun fx1 => ?_)
  refine gr_istore_n (lv' := [some (.ref 0), some (.int p0), some (.int p1), some (.int x1), none]) dX3_weightOf_4 rfl (by decide) rfl ?_
  refine gr_aload_n dX3_weightOf_5 rfl rfl ?_
  refine gr_getR q_0_3 fl_X3_31 dX3_weightOf_6 ?_
  refine gr_getIN q_8_6 fl_X3_216 dX3_weightOf_9 ?_
  obtain ⟨x2, hx2, h⟩ := gn_bd h
  refine gc_SI (c_J6_bitCount_0f7a4 hx2) my_J6_bitCount_0f7a4 ms_J6_bitCount_0f7a4 ml_X3_140 rfl rfl ⟨Nat.le_of_ble_eq_true rfl, Nat.le_of_ble_eq_true rfl⟩ (Nat.le_of_ble_eq_true rfl) dX3_weightOf_12 (fun fx2 => ?_)
  refine gr_iload_n dX3_weightOf_15 rfl rfl ?_
  refine gr_isub dX3_weightOf_16 ?_
  refine gr_istore (lv' := [some (.ref 0), some (.int p0), some (.int p1), some (.int x1), some (.int (x2 - x1))]) dX3_weightOf_17 (by decide) rfl ?_
  refine gr_bipush dX3_weightOf_19 gk_b_12 ?_
  refine gr_iload_n dX3_weightOf_21 rfl rfl ?_
  refine gr_isub dX3_weightOf_22 ?_
  refine gr_iload_n dX3_weightOf_23 rfl rfl ?_
  obtain ⟨x3, hx3, h⟩ := gn_bd h
  refine gc_SL (c_X3_power hx3) my_X3_power ms_X3_power ml_X3_295 rfl rfl ⟨Nat.le_of_ble_eq_true rfl, Nat.le_of_ble_eq_true rfl⟩ (Nat.le_of_ble_eq_true rfl) dX3_weightOf_24 (fun fx3 => ?_)
  refine gr_iload_n dX3_weightOf_27 rfl rfl ?_
  refine gr_iload dX3_weightOf_28 rfl ?_
  obtain ⟨x4, hx4, h⟩ := gn_bd h
  refine gc_SL (c_X3_power hx4) my_X3_power ms_X3_power ml_X3_295 rfl rfl ⟨Nat.le_of_ble_eq_true rfl, Nat.le_of_ble_eq_true rfl⟩ (Nat.le_of_ble_eq_true rfl) dX3_weightOf_30 (fun fx4 => ?_)
  refine gr_lmul dX3_weightOf_33 ?_
  exact gq_retL dX3_weightOf_34 trivial h
def L_X3_commonDivisor_9 (n : Nat) (k : Int64 → Option (Int64)) : Nat → Int64 → Int64 → Int32 → Option (Int64)
  | 0, _, _, _ => none
  | f + 1, v4, v6, v8 => (if v8 < (100 : Int32) then (if (lg_cmp v6 (0 : Int64)) = 0 then k v4 else gn_dvL v6 (L_X3_commonDivisor_9 n k f v6 (v4 - v4 / v6 * v6) (v8 + (1 : Int32)))) else k v4)
set_option maxRecDepth 100000 in
set_option maxHeartbeats 4000000 in
theorem l_X3_commonDivisor_9 {n : Nat} {m : gn_M} {k : Int64 → Option (Int64)} {v : Int64} (hk : ∀ (e4 : Int64), k e4 = some v → gn_Go RX3 cX3_commonDivisor 11 0 0 (some .long) none 44 [none, none, none, none, some (.long e4), none, none, none, none, none, none] [] m (some (.long v)) m) : ∀ (f : Nat) (v4 : Int64) (v6 : Int64) (v8 : Int32), L_X3_commonDivisor_9 n k f v4 v6 v8 = some v → gn_Go RX3 cX3_commonDivisor 11 0 0 (some .long) none 9 [none, none, none, none, some (.long v4), none, some (.long v6), none, some (.int v8), none, none] [] m (some (.long v)) m := by
  intro f
  induction f with
  | zero =>
    intro v4 v6 v8 h
    cases h
  | succ f ih =>
    intro v4 v6 v8 h
    rw [L_X3_commonDivisor_9] at h
    refine gr_iload dX3_commonDivisor_9 rfl ?_
    refine gr_bipush dX3_commonDivisor_11 gk_b_100 ?_
    refine gr_icmp_ge (tgt := 44) dX3_commonDivisor_13 (by decide) h (fun _ h => ?_) (fun _ h => ?_)
    · refine gr_lload dX3_commonDivisor_16 rfl ?_
      refine gr_lconst dX3_commonDivisor_18 gk_l_0 ?_
      refine gr_lcmp dX3_commonDivisor_19 ?_
      refine gr_if_eq (tgt := 44) dX3_commonDivisor_20 (by decide) h (fun _ h => ?_) (fun _ h => ?_)
      · refine gn_wkn [false, false, false, false, true, false, false, false, false, false, false] rfl ?_
        exact hk _ h
      · refine gr_lload dX3_commonDivisor_23 rfl ?_
        refine gr_lload dX3_commonDivisor_25 rfl ?_
        refine gq_lrem dX3_commonDivisor_27 h (fun h => ?_)
        refine gr_lstore (lv' := [none, none, none, none, some (.long v4), none, some (.long v6), none, some (.int v8), some (.long (v4 - v4 / v6 * v6)), none]) dX3_commonDivisor_28 (by decide) rfl ?_
        refine gr_lload dX3_commonDivisor_30 rfl ?_
        refine gr_lstore (lv' := [none, none, none, none, some (.long v6), none, some (.long v6), none, some (.int v8), some (.long (v4 - v4 / v6 * v6)), none]) dX3_commonDivisor_32 (by decide) rfl ?_
        refine gr_lload dX3_commonDivisor_34 rfl ?_
        refine gr_lstore (lv' := [none, none, none, none, some (.long v6), none, some (.long (v4 - v4 / v6 * v6)), none, some (.int v8), some (.long (v4 - v4 / v6 * v6)), none]) dX3_commonDivisor_36 (by decide) rfl ?_
        refine gr_iinc (lv' := [none, none, none, none, some (.long v6), none, some (.long (v4 - v4 / v6 * v6)), none, some (.int (v8 + (1 : Int32))), some (.long (v4 - v4 / v6 * v6)), none]) dX3_commonDivisor_38 rfl gk_i_1 (by decide) rfl ?_
        refine gr_goto (tgt := 9) dX3_commonDivisor_41 (by decide) ?_
        refine gn_wkn [false, false, false, false, true, false, true, false, true, false, false] rfl ?_
        exact ih _ _ _ h
    · refine gn_wkn [false, false, false, false, true, false, false, false, false, false, false] rfl ?_
      exact hk _ h
def f_X3_commonDivisor (n : Nat) (p0 : Int64) (p1 : Int64) : Option (Int64) := L_X3_commonDivisor_9 n (fun (e1 : Int64) => some e1) n p0 p1 (0 : Int32)
set_option maxRecDepth 100000 in
set_option maxHeartbeats 4000000 in
theorem c_X3_commonDivisor {n : Nat} {m : gn_M} {p0 : Int64} {p1 : Int64} {v : Int64} (h : f_X3_commonDivisor n p0 p1 = some v) : gn_Cl yX3_commonDivisor cX3_commonDivisor 11 (some .long) 0 0 [.long p0, .long p1] m (some (.long v)) m := by
  rw [f_X3_commonDivisor] at h
  refine gn_met (lv := [some (.long p0), none, some (.long p1), none, none, none, none, none, none, none, none]) pl_X3 rfl rfl (Nat.le_of_ble_eq_true rfl) ?_
  refine gr_lload_n dX3_commonDivisor_0 rfl rfl ?_
  refine gr_lstore (lv' := [some (.long p0), none, some (.long p1), none, some (.long p0), none, none, none, none, none, none]) dX3_commonDivisor_1 (by decide) rfl ?_
  refine gr_lload_n dX3_commonDivisor_3 rfl rfl ?_
  refine gr_lstore (lv' := [some (.long p0), none, some (.long p1), none, some (.long p0), none, some (.long p1), none, none, none, none]) dX3_commonDivisor_4 (by decide) rfl ?_
  refine gr_iconst dX3_commonDivisor_6 gk_i_0 ?_
  refine gr_istore (lv' := [some (.long p0), none, some (.long p1), none, some (.long p0), none, some (.long p1), none, some (.int (0 : Int32)), none, none]) dX3_commonDivisor_7 (by decide) rfl ?_
  refine gn_wkn [false, false, false, false, true, false, true, false, true, false, false] rfl ?_
  refine l_X3_commonDivisor_9 (fun e1 h => ?_) _ _ _ _ h
  refine gr_lload dX3_commonDivisor_44 rfl ?_
  exact gq_retL dX3_commonDivisor_46 trivial h
def f_X3_toldInParts (n : Nat) (m : gn_M) (p0 : Int64) : Option (Int32 × gn_M) := (f_J6_bitCount_0f7a4 (m.1 8 6)).bind (fun x1 => (f_X3_power n (12 : Int32) x1).bind (fun x2 => (f_X3_commonDivisor n p0 x2).bind (fun x3 => (if 0 < (lg_cmp x3 (0 : Int64)) then gn_dvL x3 (gn_pfL m 0 11 (p0 / x3) (fun m4 => gn_dvL x3 (gn_pfL m4 0 12 (x2 / x3) (fun m5 => some ((1 : Int32), m5))))) else some ((1 : Int32), m)))))
set_option maxRecDepth 100000 in
set_option maxHeartbeats 4000000 in
theorem c_X3_toldInParts {n : Nat} {m : gn_M} {p0 : Int64} {v : Int32 × gn_M} (h : f_X3_toldInParts n m p0 = some v) : gn_Cl yX3_toldInParts cX3_toldInParts 7 (some .int) 1 30 [.ref 0, .long p0] m (some (.int v.1)) v.2 := by
  rw [f_X3_toldInParts] at h
  refine gn_met (lv := [some (.ref 0), some (.long p0), none, none, none, none, none]) pl_X3 rfl rfl (Nat.le_of_ble_eq_true rfl) ?_
  refine gr_bipush dX3_toldInParts_0 gk_b_12 ?_
  refine gr_aload_n dX3_toldInParts_2 rfl rfl ?_
  refine gr_getR q_0_3 fl_X3_31 dX3_toldInParts_3 ?_
  refine gr_getIN q_8_6 fl_X3_216 dX3_toldInParts_6 ?_
  obtain ⟨x1, hx1, h⟩ := gn_bd h
  refine gc_SI (c_J6_bitCount_0f7a4 hx1) my_J6_bitCount_0f7a4 ms_J6_bitCount_0f7a4 ml_X3_140 rfl rfl ⟨Nat.le_of_ble_eq_true rfl, Nat.le_of_ble_eq_true rfl⟩ (Nat.le_of_ble_eq_true rfl) dX3_toldInParts_9 (fun fx1 => ?_)
  obtain ⟨x2, hx2, h⟩ := gn_bd h
  refine gc_SL (c_X3_power hx2) my_X3_power ms_X3_power ml_X3_295 rfl rfl ⟨Nat.le_of_ble_eq_true rfl, Nat.le_of_ble_eq_true rfl⟩ (Nat.le_of_ble_eq_true rfl) dX3_toldInParts_12 (fun fx2 => ?_)
  refine gr_lstore_n (lv' := [some (.ref 0), some (.long p0), none, some (.long x2), none, none, none]) dX3_toldInParts_15 rfl (by decide) rfl ?_
  refine gr_lload_n dX3_toldInParts_16 rfl rfl ?_
  refine gr_lload_n dX3_toldInParts_17 rfl rfl ?_
  obtain ⟨x3, hx3, h⟩ := gn_bd h
  refine gc_SL (c_X3_commonDivisor hx3) my_X3_commonDivisor ms_X3_commonDivisor ml_X3_298 rfl rfl ⟨Nat.le_of_ble_eq_true rfl, Nat.le_of_ble_eq_true rfl⟩ (Nat.le_of_ble_eq_true rfl) dX3_toldInParts_18 (fun fx3 => ?_)
  refine gr_lstore (lv' := [some (.ref 0), some (.long p0), none, some (.long x2), none, some (.long x3), none]) dX3_toldInParts_21 (by decide) rfl ?_
  refine gr_lload dX3_toldInParts_23 rfl ?_
  refine gr_lconst dX3_toldInParts_25 gk_l_0 ?_
  refine gr_lcmp dX3_toldInParts_26 ?_
  refine gr_if_le (tgt := 46) dX3_toldInParts_27 (by decide) h (fun _ h => ?_) (fun _ h => ?_)
  · refine gr_aload_n dX3_toldInParts_30 rfl rfl ?_
    refine gr_lload_n dX3_toldInParts_31 rfl rfl ?_
    refine gr_lload dX3_toldInParts_32 rfl ?_
    refine gq_ldiv dX3_toldInParts_34 h (fun h => ?_)
    refine gq_putL q_0_11 rfl rfl fl_X3_60 dX3_toldInParts_35 h (fun m4 h => ?_)
    refine gr_aload_n dX3_toldInParts_38 rfl rfl ?_
    refine gr_lload_n dX3_toldInParts_39 rfl rfl ?_
    refine gr_lload dX3_toldInParts_40 rfl ?_
    refine gq_ldiv dX3_toldInParts_42 h (fun h => ?_)
    refine gq_putL q_0_12 rfl rfl fl_X3_64 dX3_toldInParts_43 h (fun m5 h => ?_)
    refine gr_iconst dX3_toldInParts_46 gk_i_1 ?_
    exact gq_retIM dX3_toldInParts_47 rfl h
  · refine gr_iconst dX3_toldInParts_46 gk_i_1 ?_
    exact gq_retIM dX3_toldInParts_47 rfl h
def L_X3_odds_48 (n : Nat) (m : gn_M) (a1 : Int32) (k : Int64 → Option (Int32 × gn_M)) : Nat → Int64 → Int32 → Option (Int32 × gn_M)
  | 0, _, _ => none
  | f + 1, v2, v4 => (if (m.1 8 6) < v4 then k v2 else (f_X1_comesThrough m v4).bind (fun x2 => (if x2 = 0 then L_X3_odds_48 n m a1 k f v2 (v4 + (1 : Int32)) else (f_X3_weightOf n m v4 a1).bind (fun x3 => L_X3_odds_48 n m a1 k f (v2 + x3) (v4 + (1 : Int32))))))
set_option maxRecDepth 100000 in
set_option maxHeartbeats 4000000 in
theorem l_X3_odds_48 {n : Nat} {m : gn_M} {a1 : Int32} {k : Int64 → Option (Int32 × gn_M)} {v : Int32 × gn_M} (hk : ∀ (e2 : Int64), k e2 = some v → gn_Go RX3 cX3_odds 5 4 88 (some .int) none 88 [some (.ref 0), none, some (.long e2), none, none] [] m (some (.int v.1)) v.2) : ∀ (f : Nat) (v2 : Int64) (v4 : Int32), L_X3_odds_48 n m a1 k f v2 v4 = some v → gn_Go RX3 cX3_odds 5 4 88 (some .int) none 48 [some (.ref 0), some (.int a1), some (.long v2), none, some (.int v4)] [] m (some (.int v.1)) v.2 := by
  intro f
  induction f with
  | zero =>
    intro v2 v4 h
    cases h
  | succ f ih =>
    intro v2 v4 h
    rw [L_X3_odds_48] at h
    refine gr_iload dX3_odds_48 rfl ?_
    refine gr_aload_n dX3_odds_50 rfl rfl ?_
    refine gr_getR q_0_3 fl_X3_31 dX3_odds_51 ?_
    refine gr_getIN q_8_6 fl_X3_216 dX3_odds_54 ?_
    refine gr_icmp_gt (tgt := 88) dX3_odds_57 (by decide) h (fun _ h => ?_) (fun _ h => ?_)
    · refine gn_wkn [true, false, true, false, false] rfl ?_
      exact hk _ h
    · refine gr_aload_n dX3_odds_60 rfl rfl ?_
      refine gr_getR q_0_3 fl_X3_31 dX3_odds_61 ?_
      refine gr_iload dX3_odds_64 rfl ?_
      obtain ⟨x2, hx2, h⟩ := gn_bd h
      refine gc_VNI (c_X1_comesThrough hx2) my_X1_comesThrough mv_X1_comesThrough ob_8 ml_X3_224 rfl rfl ⟨Nat.le_of_ble_eq_true rfl, Nat.le_of_ble_eq_true rfl⟩ (Nat.le_of_ble_eq_true rfl) dX3_odds_66 (fun fx2 => ?_)
      refine gr_if_eq (tgt := 82) dX3_odds_69 (by decide) h (fun _ h => ?_) (fun _ h => ?_)
      · refine gr_iinc (lv' := [some (.ref 0), some (.int a1), some (.long v2), none, some (.int (v4 + (1 : Int32)))]) dX3_odds_82 rfl gk_i_1 (by decide) rfl ?_
        refine gr_goto (tgt := 48) dX3_odds_85 (by decide) ?_
        exact ih _ _ h
      · refine gr_lload_n dX3_odds_72 rfl rfl ?_
        refine gr_aload_n dX3_odds_73 rfl rfl ?_
        refine gr_iload dX3_odds_74 rfl ?_
        refine gr_iload_n dX3_odds_76 rfl rfl ?_
        obtain ⟨x3, hx3, h⟩ := gn_bd h
        refine gc_VL (c_X3_weightOf hx3) my_X3_weightOf mv_X3_weightOf ob_0 ml_X3_265 rfl rfl ⟨Nat.le_of_ble_eq_true rfl, Nat.le_of_ble_eq_true rfl⟩ (Nat.le_of_ble_eq_true rfl) dX3_odds_77 (fun fx3 => ?_)
        refine gr_ladd dX3_odds_80 ?_
        refine gr_lstore_n (lv' := [some (.ref 0), some (.int a1), some (.long (v2 + x3)), none, some (.int v4)]) dX3_odds_81 rfl (by decide) rfl ?_
        refine gr_iinc (lv' := [some (.ref 0), some (.int a1), some (.long (v2 + x3)), none, some (.int (v4 + (1 : Int32)))]) dX3_odds_82 rfl gk_i_1 (by decide) rfl ?_
        refine gr_goto (tgt := 48) dX3_odds_85 (by decide) ?_
        exact ih _ _ h
def f_X3_odds (n : Nat) (m : gn_M) (p0 : Int32) : Option (Int32 × gn_M) := (if p0 < 0 then some ((-1 : Int32), m) else (if (12 : Int32) < p0 then some ((-1 : Int32), m) else (if (m.1 7 6) = 0 then some ((-4 : Int32), m) else (f_X1_survey n m 30).bind (fun x1 => L_X3_odds_48 n x1 p0 (fun (e4 : Int64) => (f_X3_toldInParts n x1 e4).bind (fun x5 => some (x5.1, x5.2))) n (0 : Int64) (0 : Int32)))))
set_option maxRecDepth 100000 in
set_option maxHeartbeats 4000000 in
theorem c_X3_odds {n : Nat} {m : gn_M} {p0 : Int32} {v : Int32 × gn_M} (h : f_X3_odds n m p0 = some v) : gn_Cl yX3_odds cX3_odds 5 (some .int) 4 88 [.ref 0, .int p0] m (some (.int v.1)) v.2 := by
  rw [f_X3_odds] at h
  refine gn_met (lv := [some (.ref 0), some (.int p0), none, none, none]) pl_X3 rfl rfl (Nat.le_of_ble_eq_true rfl) ?_
  refine gr_iload_n dX3_odds_0 rfl rfl ?_
  refine gr_if_lt (tgt := 10) dX3_odds_1 (by decide) h (fun _ h => ?_) (fun _ h => ?_)
  · refine gr_iconst dX3_odds_10 gk_i_m1 ?_
    exact gq_retIM dX3_odds_11 rfl h
  · refine gr_iload_n dX3_odds_4 rfl rfl ?_
    refine gr_bipush dX3_odds_5 gk_b_12 ?_
    refine gr_icmp_le (tgt := 12) dX3_odds_7 (by decide) h (fun _ h => ?_) (fun _ h => ?_)
    · refine gr_iconst dX3_odds_10 gk_i_m1 ?_
      exact gq_retIM dX3_odds_11 rfl h
    · refine gr_aload_n dX3_odds_12 rfl rfl ?_
      refine gr_getR q_0_2 fl_X3_24 dX3_odds_13 ?_
      refine gr_getIN q_7_6 fl_X3_126 dX3_odds_16 ?_
      refine gr_if_ne (tgt := 25) dX3_odds_19 (by decide) h (fun _ h => ?_) (fun _ h => ?_)
      · refine gr_bipush dX3_odds_22 gk_b_m4 ?_
        exact gq_retIM dX3_odds_24 rfl h
      · refine gr_aload_n dX3_odds_25 rfl rfl ?_
        refine gr_getR q_0_3 fl_X3_31 dX3_odds_26 ?_
        refine gr_aload_n dX3_odds_29 rfl rfl ?_
        refine gr_getR q_0_2 fl_X3_24 dX3_odds_30 ?_
        refine gr_aload_n dX3_odds_33 rfl rfl ?_
        refine gr_getR q_0_2 fl_X3_24 dX3_odds_34 ?_
        refine gr_getRN q_7_3 fl_X3_203 dX3_odds_37 ?_
        obtain ⟨x1, hx1, h⟩ := gn_bd h
        refine gc_VN0 (c_X1_survey s_30 hx1) my_X1_survey mv_X1_survey ob_8 ml_X3_206 rfl rfl ⟨Nat.le_of_ble_eq_true rfl, Nat.le_of_ble_eq_true rfl⟩ (Nat.le_of_ble_eq_true rfl) dX3_odds_40 (fun fx1 => ?_)
        refine gr_lconst dX3_odds_43 gk_l_0 ?_
        refine gr_lstore_n (lv' := [some (.ref 0), some (.int p0), some (.long (0 : Int64)), none, none]) dX3_odds_44 rfl (by decide) rfl ?_
        refine gr_iconst dX3_odds_45 gk_i_0 ?_
        refine gr_istore (lv' := [some (.ref 0), some (.int p0), some (.long (0 : Int64)), none, some (.int (0 : Int32))]) dX3_odds_46 (by decide) rfl ?_
        refine l_X3_odds_48 (fun e4 h => ?_) _ _ _ h
        refine gr_aload_n dX3_odds_88 rfl rfl ?_
        refine gr_lload_n dX3_odds_89 rfl rfl ?_
        obtain ⟨x5, hx5, h⟩ := gn_bd h
        refine gc_VI (c_X3_toldInParts hx5) my_X3_toldInParts mv_X3_toldInParts ob_0 ml_X3_269 rfl rfl ⟨Nat.le_of_ble_eq_true rfl, Nat.le_of_ble_eq_true rfl⟩ (Nat.le_of_ble_eq_true rfl) dX3_odds_90 (fun fx5 => ?_)
        exact gq_retIM dX3_odds_93 rfl h
def L_X3_mid_55 (n : Nat) (m : gn_M) (a1 : Int32) (k : Int64 → Option (Int32 × gn_M)) : Nat → Int64 → Int32 → Option (Int32 × gn_M)
  | 0, _, _ => none
  | f + 1, v2, v4 => (if (m.1 8 6) < v4 then k v2 else (f_X1_within m v4).bind (fun x3 => (if x3 = 0 then L_X3_mid_55 n m a1 k f v2 (v4 + (1 : Int32)) else (f_X3_weightOf n m v4 a1).bind (fun x4 => gn_rd m 35 128 v4 (fun x5 => L_X3_mid_55 n m a1 k f (v2 + (x4 * x5.toInt64)) (v4 + (1 : Int32)))))))
set_option maxRecDepth 100000 in
set_option maxHeartbeats 4000000 in
theorem l_X3_mid_55 {n : Nat} {m : gn_M} {a1 : Int32} {k : Int64 → Option (Int32 × gn_M)} {v : Int32 × gn_M} (hk : ∀ (e2 : Int64), k e2 = some v → gn_Go RX3 cX3_mid 5 4 88 (some .int) none 107 [some (.ref 0), none, some (.long e2), none, none] [] m (some (.int v.1)) v.2) : ∀ (f : Nat) (v2 : Int64) (v4 : Int32), L_X3_mid_55 n m a1 k f v2 v4 = some v → gn_Go RX3 cX3_mid 5 4 88 (some .int) none 55 [some (.ref 0), some (.int a1), some (.long v2), none, some (.int v4)] [] m (some (.int v.1)) v.2 := by
  intro f
  induction f with
  | zero =>
    intro v2 v4 h
    cases h
  | succ f ih =>
    intro v2 v4 h
    rw [L_X3_mid_55] at h
    refine gr_iload dX3_mid_55 rfl ?_
    refine gr_aload_n dX3_mid_57 rfl rfl ?_
    refine gr_getR q_0_3 fl_X3_31 dX3_mid_58 ?_
    refine gr_getIN q_8_6 fl_X3_216 dX3_mid_61 ?_
    refine gr_icmp_gt (tgt := 107) dX3_mid_64 (by decide) h (fun _ h => ?_) (fun _ h => ?_)
    · refine gn_wkn [true, false, true, false, false] rfl ?_
      exact hk _ h
    · refine gr_aload_n dX3_mid_67 rfl rfl ?_
      refine gr_getR q_0_3 fl_X3_31 dX3_mid_68 ?_
      refine gr_iload dX3_mid_71 rfl ?_
      obtain ⟨x3, hx3, h⟩ := gn_bd h
      refine gc_VNI (c_X1_within hx3) my_X1_within mv_X1_within ob_8 ml_X3_273 rfl rfl ⟨Nat.le_of_ble_eq_true rfl, Nat.le_of_ble_eq_true rfl⟩ (Nat.le_of_ble_eq_true rfl) dX3_mid_73 (fun fx3 => ?_)
      refine gr_if_eq (tgt := 101) dX3_mid_76 (by decide) h (fun _ h => ?_) (fun _ h => ?_)
      · refine gr_iinc (lv' := [some (.ref 0), some (.int a1), some (.long v2), none, some (.int (v4 + (1 : Int32)))]) dX3_mid_101 rfl gk_i_1 (by decide) rfl ?_
        refine gr_goto (tgt := 55) dX3_mid_104 (by decide) ?_
        exact ih _ _ h
      · refine gr_lload_n dX3_mid_79 rfl rfl ?_
        refine gr_aload_n dX3_mid_80 rfl rfl ?_
        refine gr_iload dX3_mid_81 rfl ?_
        refine gr_iload_n dX3_mid_83 rfl rfl ?_
        obtain ⟨x4, hx4, h⟩ := gn_bd h
        refine gc_VL (c_X3_weightOf hx4) my_X3_weightOf mv_X3_weightOf ob_0 ml_X3_265 rfl rfl ⟨Nat.le_of_ble_eq_true rfl, Nat.le_of_ble_eq_true rfl⟩ (Nat.le_of_ble_eq_true rfl) dX3_mid_84 (fun fx4 => ?_)
        refine gr_aload_n dX3_mid_87 rfl rfl ?_
        refine gr_getR q_0_3 fl_X3_31 dX3_mid_88 ?_
        refine gr_getRN q_8_2 fl_X3_213 dX3_mid_91 ?_
        refine gr_iload dX3_mid_94 rfl ?_
        refine gq_iaload s_35 dX3_mid_96 h (fun x5 h => ?_)
        refine gr_i2l dX3_mid_97 ?_
        refine gr_lmul dX3_mid_98 ?_
        refine gr_ladd dX3_mid_99 ?_
        refine gr_lstore_n (lv' := [some (.ref 0), some (.int a1), some (.long (v2 + (x4 * x5.toInt64))), none, some (.int v4)]) dX3_mid_100 rfl (by decide) rfl ?_
        refine gr_iinc (lv' := [some (.ref 0), some (.int a1), some (.long (v2 + (x4 * x5.toInt64))), none, some (.int (v4 + (1 : Int32)))]) dX3_mid_101 rfl gk_i_1 (by decide) rfl ?_
        refine gr_goto (tgt := 55) dX3_mid_104 (by decide) ?_
        exact ih _ _ h
def f_X3_mid (n : Nat) (m : gn_M) (p0 : Int32) : Option (Int32 × gn_M) := (if p0 < 0 then some ((-1 : Int32), m) else (if (12 : Int32) < p0 then some ((-1 : Int32), m) else (if (m.1 7 6) = 0 then some ((-4 : Int32), m) else (f_X1_survey n m 30).bind (fun x1 => (f_X1_rank n x1).bind (fun x2 => L_X3_mid_55 n x2 p0 (fun (e6 : Int64) => (f_X3_toldInParts n x2 e6).bind (fun x7 => some (x7.1, x7.2))) n (0 : Int64) (0 : Int32))))))
set_option maxRecDepth 100000 in
set_option maxHeartbeats 4000000 in
theorem c_X3_mid {n : Nat} {m : gn_M} {p0 : Int32} {v : Int32 × gn_M} (h : f_X3_mid n m p0 = some v) : gn_Cl yX3_mid cX3_mid 5 (some .int) 4 88 [.ref 0, .int p0] m (some (.int v.1)) v.2 := by
  rw [f_X3_mid] at h
  refine gn_met (lv := [some (.ref 0), some (.int p0), none, none, none]) pl_X3 rfl rfl (Nat.le_of_ble_eq_true rfl) ?_
  refine gr_iload_n dX3_mid_0 rfl rfl ?_
  refine gr_if_lt (tgt := 10) dX3_mid_1 (by decide) h (fun _ h => ?_) (fun _ h => ?_)
  · refine gr_iconst dX3_mid_10 gk_i_m1 ?_
    exact gq_retIM dX3_mid_11 rfl h
  · refine gr_iload_n dX3_mid_4 rfl rfl ?_
    refine gr_bipush dX3_mid_5 gk_b_12 ?_
    refine gr_icmp_le (tgt := 12) dX3_mid_7 (by decide) h (fun _ h => ?_) (fun _ h => ?_)
    · refine gr_iconst dX3_mid_10 gk_i_m1 ?_
      exact gq_retIM dX3_mid_11 rfl h
    · refine gr_aload_n dX3_mid_12 rfl rfl ?_
      refine gr_getR q_0_2 fl_X3_24 dX3_mid_13 ?_
      refine gr_getIN q_7_6 fl_X3_126 dX3_mid_16 ?_
      refine gr_if_ne (tgt := 25) dX3_mid_19 (by decide) h (fun _ h => ?_) (fun _ h => ?_)
      · refine gr_bipush dX3_mid_22 gk_b_m4 ?_
        exact gq_retIM dX3_mid_24 rfl h
      · refine gr_aload_n dX3_mid_25 rfl rfl ?_
        refine gr_getR q_0_3 fl_X3_31 dX3_mid_26 ?_
        refine gr_aload_n dX3_mid_29 rfl rfl ?_
        refine gr_getR q_0_2 fl_X3_24 dX3_mid_30 ?_
        refine gr_aload_n dX3_mid_33 rfl rfl ?_
        refine gr_getR q_0_2 fl_X3_24 dX3_mid_34 ?_
        refine gr_getRN q_7_3 fl_X3_203 dX3_mid_37 ?_
        obtain ⟨x1, hx1, h⟩ := gn_bd h
        refine gc_VN0 (c_X1_survey s_30 hx1) my_X1_survey mv_X1_survey ob_8 ml_X3_206 rfl rfl ⟨Nat.le_of_ble_eq_true rfl, Nat.le_of_ble_eq_true rfl⟩ (Nat.le_of_ble_eq_true rfl) dX3_mid_40 (fun fx1 => ?_)
        refine gr_aload_n dX3_mid_43 rfl rfl ?_
        refine gr_getR q_0_3 fl_X3_31 dX3_mid_44 ?_
        obtain ⟨x2, hx2, h⟩ := gn_bd h
        refine gc_VN0 (c_X1_rank hx2) my_X1_rank mv_X1_rank ob_8 ml_X3_210 rfl rfl ⟨Nat.le_of_ble_eq_true rfl, Nat.le_of_ble_eq_true rfl⟩ (Nat.le_of_ble_eq_true rfl) dX3_mid_47 (fun fx2 => ?_)
        refine gr_lconst dX3_mid_50 gk_l_0 ?_
        refine gr_lstore_n (lv' := [some (.ref 0), some (.int p0), some (.long (0 : Int64)), none, none]) dX3_mid_51 rfl (by decide) rfl ?_
        refine gr_iconst dX3_mid_52 gk_i_0 ?_
        refine gr_istore (lv' := [some (.ref 0), some (.int p0), some (.long (0 : Int64)), none, some (.int (0 : Int32))]) dX3_mid_53 (by decide) rfl ?_
        refine l_X3_mid_55 (fun e6 h => ?_) _ _ _ h
        refine gr_aload_n dX3_mid_107 rfl rfl ?_
        refine gr_lload_n dX3_mid_108 rfl rfl ?_
        obtain ⟨x7, hx7, h⟩ := gn_bd h
        refine gc_VI (c_X3_toldInParts hx7) my_X3_toldInParts mv_X3_toldInParts ob_0 ml_X3_269 rfl rfl ⟨Nat.le_of_ble_eq_true rfl, Nat.le_of_ble_eq_true rfl⟩ (Nat.le_of_ble_eq_true rfl) dX3_mid_109 (fun fx7 => ?_)
        exact gq_retIM dX3_mid_112 rfl h
def f_X3_doByLot (m : gn_M) (p0 : Int32) : Option (gn_M) := gn_dv (m.1 7 6) (gn_dv (m.1 7 6) ((if (p0 - p0 / (4 : Int32) * (4 : Int32)) = 0 then (f_X0_canMeet m ((p0 / (8 : Int32)) - (p0 / (8 : Int32)) / (m.1 7 6) * (m.1 7 6)) ((p0 / (64 : Int32)) - (p0 / (64 : Int32)) / (m.1 7 6) * (m.1 7 6))).bind (fun x1 => (f_X0_add m (if x1 = 0 then (0 : Int32) else (1 : Int32)) ((p0 / (8 : Int32)) - (p0 / (8 : Int32)) / (m.1 7 6) * (m.1 7 6)) ((p0 / (64 : Int32)) - (p0 / (64 : Int32)) / (m.1 7 6) * (m.1 7 6))).bind (fun x3 => some x3)) else (if (p0 - p0 / (4 : Int32) * (4 : Int32)) = 1 then (f_X0_waits m ((p0 / (8 : Int32)) - (p0 / (8 : Int32)) / (m.1 7 6) * (m.1 7 6))).bind (fun x4 => (f_X0_add m (if x4 = 0 then (0 : Int32) else (2 : Int32)) ((p0 / (8 : Int32)) - (p0 / (8 : Int32)) / (m.1 7 6) * (m.1 7 6)) ((p0 / (64 : Int32)) - (p0 / (64 : Int32)) / (m.1 7 6) * (m.1 7 6))).bind (fun x6 => some x6)) else (if (p0 - p0 / (4 : Int32) * (4 : Int32)) = 2 then (f_X0_waits m ((p0 / (8 : Int32)) - (p0 / (8 : Int32)) / (m.1 7 6) * (m.1 7 6))).bind (fun x7 => (f_X0_add m (if x7 = 0 then (0 : Int32) else (3 : Int32)) ((p0 / (8 : Int32)) - (p0 / (8 : Int32)) / (m.1 7 6) * (m.1 7 6)) ((p0 / (64 : Int32)) - (p0 / (64 : Int32)) / (m.1 7 6) * (m.1 7 6))).bind (fun x9 => some x9)) else (f_X0_opensTo m ((p0 / (8 : Int32)) - (p0 / (8 : Int32)) / (m.1 7 6) * (m.1 7 6))).bind (fun x10 => (f_X0_add m (if x10 = 0 then (0 : Int32) else (4 : Int32)) ((p0 / (8 : Int32)) - (p0 / (8 : Int32)) / (m.1 7 6) * (m.1 7 6)) ((p0 / (64 : Int32)) - (p0 / (64 : Int32)) / (m.1 7 6) * (m.1 7 6))).bind (fun x12 => some x12)))))))
set_option maxRecDepth 100000 in
set_option maxHeartbeats 4000000 in
theorem c_X3_doByLot {m : gn_M} {p0 : Int32} {v : gn_M} (h : f_X3_doByLot m p0 = some v) : gn_Cl yX3_doByLot cX3_doByLot 4 none 3 75 [.ref 0, .int p0] m none v := by
  rw [f_X3_doByLot] at h
  refine gn_met (lv := [some (.ref 0), some (.int p0), none, none]) pl_X3 rfl rfl (Nat.le_of_ble_eq_true rfl) ?_
  refine gr_iload_n dX3_doByLot_0 rfl rfl ?_
  refine gr_bipush dX3_doByLot_1 gk_b_8 ?_
  refine gr_idiv dX3_doByLot_3 (by decide) ?_
  refine gr_aload_n dX3_doByLot_4 rfl rfl ?_
  refine gr_getR q_0_2 fl_X3_24 dX3_doByLot_5 ?_
  refine gr_getIN q_7_6 fl_X3_126 dX3_doByLot_8 ?_
  refine gq_irem dX3_doByLot_11 h (fun h => ?_)
  refine gr_istore_n (lv' := [some (.ref 0), some (.int p0), some (.int ((p0 / (8 : Int32)) - (p0 / (8 : Int32)) / (m.1 7 6) * (m.1 7 6))), none]) dX3_doByLot_12 rfl (by decide) rfl ?_
  refine gr_iload_n dX3_doByLot_13 rfl rfl ?_
  refine gr_bipush dX3_doByLot_14 gk_b_64 ?_
  refine gr_idiv dX3_doByLot_16 (by decide) ?_
  refine gr_aload_n dX3_doByLot_17 rfl rfl ?_
  refine gr_getR q_0_2 fl_X3_24 dX3_doByLot_18 ?_
  refine gr_getIN q_7_6 fl_X3_126 dX3_doByLot_21 ?_
  refine gq_irem dX3_doByLot_24 h (fun h => ?_)
  refine gr_istore_n (lv' := [some (.ref 0), some (.int p0), some (.int ((p0 / (8 : Int32)) - (p0 / (8 : Int32)) / (m.1 7 6) * (m.1 7 6))), some (.int ((p0 / (64 : Int32)) - (p0 / (64 : Int32)) / (m.1 7 6) * (m.1 7 6)))]) dX3_doByLot_25 rfl (by decide) rfl ?_
  refine gr_iload_n dX3_doByLot_26 rfl rfl ?_
  refine gr_iconst dX3_doByLot_27 gk_i_4 ?_
  refine gr_irem dX3_doByLot_28 (by decide) ?_
  refine gn_sw h (fun hs0 h => ?_) (fun hs0 h => ?_)
  · refine gr_tsIn (tgt := 56) dX3_doByLot_29 hs0 (by decide) (by decide) rfl (by decide) ?_
    refine gr_aload_n dX3_doByLot_56 rfl rfl ?_
    refine gr_getR q_0_2 fl_X3_24 dX3_doByLot_57 ?_
    refine gr_aload_n dX3_doByLot_60 rfl rfl ?_
    refine gr_getR q_0_2 fl_X3_24 dX3_doByLot_61 ?_
    refine gr_iload_n dX3_doByLot_64 rfl rfl ?_
    refine gr_iload_n dX3_doByLot_65 rfl rfl ?_
    obtain ⟨x1, hx1, h⟩ := gn_bd h
    refine gc_VNI (c_X0_canMeet hx1) my_X0_canMeet mv_X0_canMeet ob_7 ml_X3_162 rfl rfl ⟨Nat.le_of_ble_eq_true rfl, Nat.le_of_ble_eq_true rfl⟩ (Nat.le_of_ble_eq_true rfl) dX3_doByLot_66 (fun fx1 => ?_)
    have hJ : ∀ y2 : Int32, y2 = (if x1 = 0 then (0 : Int32) else (1 : Int32)) → gn_Go RX3 cX3_doByLot 4 3 75 none none 77 [none, none, some (.int ((p0 / (8 : Int32)) - (p0 / (8 : Int32)) / (m.1 7 6) * (m.1 7 6))), some (.int ((p0 / (64 : Int32)) - (p0 / (64 : Int32)) / (m.1 7 6) * (m.1 7 6)))] [.int y2, .ref 7] m none v := by
      intro y2 hx
      subst hx
      refine gr_iload_n dX3_doByLot_77 rfl rfl ?_
      refine gr_iload_n dX3_doByLot_78 rfl rfl ?_
      obtain ⟨x3, hx3, h⟩ := gn_bd h
      refine gc_VN0 (c_X0_add hx3) my_X0_add mv_X0_add ob_7 ml_X3_172 rfl rfl ⟨Nat.le_of_ble_eq_true rfl, Nat.le_of_ble_eq_true rfl⟩ (Nat.le_of_ble_eq_true rfl) dX3_doByLot_79 (fun fx3 => ?_)
      refine gr_goto (tgt := 166) dX3_doByLot_82 (by decide) ?_
      exact gq_retVM dX3_doByLot_166 trivial h
    by_cases hc0 : x1 = 0
    · refine gr_ifT_eq (tgt := 76) dX3_doByLot_69 (by decide) hc0 ?_
      refine gr_iconst dX3_doByLot_76 gk_i_0 ?_
      refine gn_wkn [false, false, true, true] rfl ?_
      exact hJ _ (by rw [if_pos hc0])
    · refine gr_ifF_eq (tgt := 76) dX3_doByLot_69 (by decide) hc0 ?_
      refine gr_iconst dX3_doByLot_72 gk_i_1 ?_
      refine gr_goto (tgt := 77) dX3_doByLot_73 (by decide) ?_
      refine gn_wkn [false, false, true, true] rfl ?_
      exact hJ _ (by rw [if_neg hc0])
  refine gn_sw h (fun hs1 h => ?_) (fun hs1 h => ?_)
  · refine gr_tsIn (tgt := 85) dX3_doByLot_29 hs1 (by decide) (by decide) rfl (by decide) ?_
    refine gr_aload_n dX3_doByLot_85 rfl rfl ?_
    refine gr_getR q_0_2 fl_X3_24 dX3_doByLot_86 ?_
    refine gr_aload_n dX3_doByLot_89 rfl rfl ?_
    refine gr_getR q_0_2 fl_X3_24 dX3_doByLot_90 ?_
    refine gr_iload_n dX3_doByLot_93 rfl rfl ?_
    obtain ⟨x4, hx4, h⟩ := gn_bd h
    refine gc_VNI (c_X0_waits hx4) my_X0_waits mv_X0_waits ob_7 ml_X3_244 rfl rfl ⟨Nat.le_of_ble_eq_true rfl, Nat.le_of_ble_eq_true rfl⟩ (Nat.le_of_ble_eq_true rfl) dX3_doByLot_94 (fun fx4 => ?_)
    have hJ : ∀ y5 : Int32, y5 = (if x4 = 0 then (0 : Int32) else (2 : Int32)) → gn_Go RX3 cX3_doByLot 4 3 75 none none 105 [none, none, some (.int ((p0 / (8 : Int32)) - (p0 / (8 : Int32)) / (m.1 7 6) * (m.1 7 6))), some (.int ((p0 / (64 : Int32)) - (p0 / (64 : Int32)) / (m.1 7 6) * (m.1 7 6)))] [.int y5, .ref 7] m none v := by
      intro y5 hx
      subst hx
      refine gr_iload_n dX3_doByLot_105 rfl rfl ?_
      refine gr_iload_n dX3_doByLot_106 rfl rfl ?_
      obtain ⟨x6, hx6, h⟩ := gn_bd h
      refine gc_VN0 (c_X0_add hx6) my_X0_add mv_X0_add ob_7 ml_X3_172 rfl rfl ⟨Nat.le_of_ble_eq_true rfl, Nat.le_of_ble_eq_true rfl⟩ (Nat.le_of_ble_eq_true rfl) dX3_doByLot_107 (fun fx6 => ?_)
      refine gr_goto (tgt := 166) dX3_doByLot_110 (by decide) ?_
      exact gq_retVM dX3_doByLot_166 trivial h
    by_cases hc0 : x4 = 0
    · refine gr_ifT_eq (tgt := 104) dX3_doByLot_97 (by decide) hc0 ?_
      refine gr_iconst dX3_doByLot_104 gk_i_0 ?_
      refine gn_wkn [false, false, true, true] rfl ?_
      exact hJ _ (by rw [if_pos hc0])
    · refine gr_ifF_eq (tgt := 104) dX3_doByLot_97 (by decide) hc0 ?_
      refine gr_iconst dX3_doByLot_100 gk_i_2 ?_
      refine gr_goto (tgt := 105) dX3_doByLot_101 (by decide) ?_
      refine gn_wkn [false, false, true, true] rfl ?_
      exact hJ _ (by rw [if_neg hc0])
  refine gn_sw h (fun hs2 h => ?_) (fun hs2 h => ?_)
  · refine gr_tsIn (tgt := 113) dX3_doByLot_29 hs2 (by decide) (by decide) rfl (by decide) ?_
    refine gr_aload_n dX3_doByLot_113 rfl rfl ?_
    refine gr_getR q_0_2 fl_X3_24 dX3_doByLot_114 ?_
    refine gr_aload_n dX3_doByLot_117 rfl rfl ?_
    refine gr_getR q_0_2 fl_X3_24 dX3_doByLot_118 ?_
    refine gr_iload_n dX3_doByLot_121 rfl rfl ?_
    obtain ⟨x7, hx7, h⟩ := gn_bd h
    refine gc_VNI (c_X0_waits hx7) my_X0_waits mv_X0_waits ob_7 ml_X3_244 rfl rfl ⟨Nat.le_of_ble_eq_true rfl, Nat.le_of_ble_eq_true rfl⟩ (Nat.le_of_ble_eq_true rfl) dX3_doByLot_122 (fun fx7 => ?_)
    have hJ : ∀ y8 : Int32, y8 = (if x7 = 0 then (0 : Int32) else (3 : Int32)) → gn_Go RX3 cX3_doByLot 4 3 75 none none 133 [none, none, some (.int ((p0 / (8 : Int32)) - (p0 / (8 : Int32)) / (m.1 7 6) * (m.1 7 6))), some (.int ((p0 / (64 : Int32)) - (p0 / (64 : Int32)) / (m.1 7 6) * (m.1 7 6)))] [.int y8, .ref 7] m none v := by
      intro y8 hx
      subst hx
      refine gr_iload_n dX3_doByLot_133 rfl rfl ?_
      refine gr_iload_n dX3_doByLot_134 rfl rfl ?_
      obtain ⟨x9, hx9, h⟩ := gn_bd h
      refine gc_VN0 (c_X0_add hx9) my_X0_add mv_X0_add ob_7 ml_X3_172 rfl rfl ⟨Nat.le_of_ble_eq_true rfl, Nat.le_of_ble_eq_true rfl⟩ (Nat.le_of_ble_eq_true rfl) dX3_doByLot_135 (fun fx9 => ?_)
      refine gr_goto (tgt := 166) dX3_doByLot_138 (by decide) ?_
      exact gq_retVM dX3_doByLot_166 trivial h
    by_cases hc0 : x7 = 0
    · refine gr_ifT_eq (tgt := 132) dX3_doByLot_125 (by decide) hc0 ?_
      refine gr_iconst dX3_doByLot_132 gk_i_0 ?_
      refine gn_wkn [false, false, true, true] rfl ?_
      exact hJ _ (by rw [if_pos hc0])
    · refine gr_ifF_eq (tgt := 132) dX3_doByLot_125 (by decide) hc0 ?_
      refine gr_iconst dX3_doByLot_128 gk_i_3 ?_
      refine gr_goto (tgt := 133) dX3_doByLot_129 (by decide) ?_
      refine gn_wkn [false, false, true, true] rfl ?_
      exact hJ _ (by rw [if_neg hc0])
  refine gr_tsOut (tgt := 141) dX3_doByLot_29 (by have := gn_out (x := (p0 - p0 / (4 : Int32) * (4 : Int32))) 3 0 (fun j hj => match j, hj with | 0, _ => hs0 | 1, _ => hs1 | 2, _ => hs2 | j + 3, hj => absurd hj (by omega)); omega) (by decide) ?_
  refine gr_aload_n dX3_doByLot_141 rfl rfl ?_
  refine gr_getR q_0_2 fl_X3_24 dX3_doByLot_142 ?_
  refine gr_aload_n dX3_doByLot_145 rfl rfl ?_
  refine gr_getR q_0_2 fl_X3_24 dX3_doByLot_146 ?_
  refine gr_iload_n dX3_doByLot_149 rfl rfl ?_
  obtain ⟨x10, hx10, h⟩ := gn_bd h
  refine gc_VNI (c_X0_opensTo hx10) my_X0_opensTo mv_X0_opensTo ob_7 ml_X3_182 rfl rfl ⟨Nat.le_of_ble_eq_true rfl, Nat.le_of_ble_eq_true rfl⟩ (Nat.le_of_ble_eq_true rfl) dX3_doByLot_150 (fun fx10 => ?_)
  have hJ : ∀ y11 : Int32, y11 = (if x10 = 0 then (0 : Int32) else (4 : Int32)) → gn_Go RX3 cX3_doByLot 4 3 75 none none 161 [none, none, some (.int ((p0 / (8 : Int32)) - (p0 / (8 : Int32)) / (m.1 7 6) * (m.1 7 6))), some (.int ((p0 / (64 : Int32)) - (p0 / (64 : Int32)) / (m.1 7 6) * (m.1 7 6)))] [.int y11, .ref 7] m none v := by
    intro y11 hx
    subst hx
    refine gr_iload_n dX3_doByLot_161 rfl rfl ?_
    refine gr_iload_n dX3_doByLot_162 rfl rfl ?_
    obtain ⟨x12, hx12, h⟩ := gn_bd h
    refine gc_VN0 (c_X0_add hx12) my_X0_add mv_X0_add ob_7 ml_X3_172 rfl rfl ⟨Nat.le_of_ble_eq_true rfl, Nat.le_of_ble_eq_true rfl⟩ (Nat.le_of_ble_eq_true rfl) dX3_doByLot_163 (fun fx12 => ?_)
    exact gq_retVM dX3_doByLot_166 trivial h
  by_cases hc0 : x10 = 0
  · refine gr_ifT_eq (tgt := 160) dX3_doByLot_153 (by decide) hc0 ?_
    refine gr_iconst dX3_doByLot_160 gk_i_0 ?_
    refine gn_wkn [false, false, true, true] rfl ?_
    exact hJ _ (by rw [if_pos hc0])
  · refine gr_ifF_eq (tgt := 160) dX3_doByLot_153 (by decide) hc0 ?_
    refine gr_iconst dX3_doByLot_156 gk_i_4 ?_
    refine gr_goto (tgt := 161) dX3_doByLot_157 (by decide) ?_
    refine gn_wkn [false, false, true, true] rfl ?_
    exact hJ _ (by rw [if_neg hc0])
def L_X3_lots_60 (n : Nat) (a1 : Int32) (k : gn_M → Option (Int32 × gn_M)) : Nat → Int64 → Int32 → gn_M → Option (Int32 × gn_M)
  | 0, _, _, _ => none
  | f + 1, v3, v5, m => (if v5 < a1 then (f_X3_doByLot m ((v3 * (48271 : Int64)) - (v3 * (48271 : Int64)) / (2147483647 : Int64) * (2147483647 : Int64)).toInt32).bind (fun x2 => L_X3_lots_60 n a1 k f ((v3 * (48271 : Int64)) - (v3 * (48271 : Int64)) / (2147483647 : Int64) * (2147483647 : Int64)) (v5 + (1 : Int32)) x2) else k m)
set_option maxRecDepth 100000 in
set_option maxHeartbeats 4000000 in
theorem l_X3_lots_60 {n : Nat} {a1 : Int32} {k : gn_M → Option (Int32 × gn_M)} {v : Int32 × gn_M} (hk : ∀ (m1 : gn_M), k m1 = some v → gn_Go RX3 cX3_lots 6 4 98 (some .int) none 88 [some (.ref 0), none, none, none, none, none] [] m1 (some (.int v.1)) v.2) : ∀ (f : Nat) (v3 : Int64) (v5 : Int32) (m : gn_M), L_X3_lots_60 n a1 k f v3 v5 m = some v → gn_Go RX3 cX3_lots 6 4 98 (some .int) none 60 [some (.ref 0), some (.int a1), none, some (.long v3), none, some (.int v5)] [] m (some (.int v.1)) v.2 := by
  intro f
  induction f with
  | zero =>
    intro v3 v5 m h
    cases h
  | succ f ih =>
    intro v3 v5 m h
    rw [L_X3_lots_60] at h
    refine gr_iload dX3_lots_60 rfl ?_
    refine gr_iload_n dX3_lots_62 rfl rfl ?_
    refine gr_icmp_ge (tgt := 88) dX3_lots_63 (by decide) h (fun _ h => ?_) (fun _ h => ?_)
    · refine gr_lload_n dX3_lots_66 rfl rfl ?_
      refine gr_ldc2 kl_X3_278 dX3_lots_67 ?_
      refine gr_lmul dX3_lots_70 ?_
      refine gr_ldc2 kl_X3_276 dX3_lots_71 ?_
      refine gr_lrem dX3_lots_74 (by decide) ?_
      refine gr_lstore_n (lv' := [some (.ref 0), some (.int a1), none, some (.long ((v3 * (48271 : Int64)) - (v3 * (48271 : Int64)) / (2147483647 : Int64) * (2147483647 : Int64))), none, some (.int v5)]) dX3_lots_75 rfl (by decide) rfl ?_
      refine gr_aload_n dX3_lots_76 rfl rfl ?_
      refine gr_lload_n dX3_lots_77 rfl rfl ?_
      refine gr_l2i dX3_lots_78 ?_
      obtain ⟨x2, hx2, h⟩ := gn_bd h
      refine gc_V0 (c_X3_doByLot hx2) my_X3_doByLot mv_X3_doByLot ob_0 ml_X3_280 rfl rfl ⟨Nat.le_of_ble_eq_true rfl, Nat.le_of_ble_eq_true rfl⟩ (Nat.le_of_ble_eq_true rfl) dX3_lots_79 (fun fx2 => ?_)
      refine gr_iinc (lv' := [some (.ref 0), some (.int a1), none, some (.long ((v3 * (48271 : Int64)) - (v3 * (48271 : Int64)) / (2147483647 : Int64) * (2147483647 : Int64))), none, some (.int (v5 + (1 : Int32)))]) dX3_lots_82 rfl gk_i_1 (by decide) rfl ?_
      refine gr_goto (tgt := 60) dX3_lots_85 (by decide) ?_
      exact ih _ _ _ h
    · refine gn_wkn [true, false, false, false, false, false] rfl ?_
      exact hk _ h
def f_X3_lots (n : Nat) (m : gn_M) (p0 : Int32) (p1 : Int32) : Option (Int32 × gn_M) := (if p0 < (1 : Int32) then some ((-1 : Int32), m) else (if (20 : Int32) < p0 then some ((-1 : Int32), m) else (if p1 < (1 : Int32) then some ((-1 : Int32), m) else (if (lg_cmp p1.toInt64 (2147483647 : Int64)) < 0 then (if (m.1 7 6) = 0 then some ((-4 : Int32), m) else (f_X0_spare m).bind (fun x1 => (if x1 < p0 then some ((-2 : Int32), m) else L_X3_lots_60 n p0 (fun (m3 : gn_M) => (f_J6_bitCount_0f7a4 (m3.1 7 8)).bind (fun x4 => some (x4, m3))) n p1.toInt64 (0 : Int32) m))) else some ((-1 : Int32), m)))))
set_option maxRecDepth 100000 in
set_option maxHeartbeats 4000000 in
theorem c_X3_lots {n : Nat} {m : gn_M} {p0 : Int32} {p1 : Int32} {v : Int32 × gn_M} (h : f_X3_lots n m p0 p1 = some v) : gn_Cl yX3_lots cX3_lots 6 (some .int) 4 98 [.ref 0, .int p0, .int p1] m (some (.int v.1)) v.2 := by
  rw [f_X3_lots] at h
  refine gn_met (lv := [some (.ref 0), some (.int p0), some (.int p1), none, none, none]) pl_X3 rfl rfl (Nat.le_of_ble_eq_true rfl) ?_
  refine gr_iload_n dX3_lots_0 rfl rfl ?_
  refine gr_iconst dX3_lots_1 gk_i_1 ?_
  refine gr_icmp_lt (tgt := 25) dX3_lots_2 (by decide) h (fun _ h => ?_) (fun _ h => ?_)
  · refine gr_iconst dX3_lots_25 gk_i_m1 ?_
    exact gq_retIM dX3_lots_26 rfl h
  · refine gr_iload_n dX3_lots_5 rfl rfl ?_
    refine gr_bipush dX3_lots_6 gk_b_20 ?_
    refine gr_icmp_gt (tgt := 25) dX3_lots_8 (by decide) h (fun _ h => ?_) (fun _ h => ?_)
    · refine gr_iconst dX3_lots_25 gk_i_m1 ?_
      exact gq_retIM dX3_lots_26 rfl h
    · refine gr_iload_n dX3_lots_11 rfl rfl ?_
      refine gr_iconst dX3_lots_12 gk_i_1 ?_
      refine gr_icmp_lt (tgt := 25) dX3_lots_13 (by decide) h (fun _ h => ?_) (fun _ h => ?_)
      · refine gr_iconst dX3_lots_25 gk_i_m1 ?_
        exact gq_retIM dX3_lots_26 rfl h
      · refine gr_iload_n dX3_lots_16 rfl rfl ?_
        refine gr_i2l dX3_lots_17 ?_
        refine gr_ldc2 kl_X3_276 dX3_lots_18 ?_
        refine gr_lcmp dX3_lots_21 ?_
        refine gr_if_lt (tgt := 27) dX3_lots_22 (by decide) h (fun _ h => ?_) (fun _ h => ?_)
        · refine gr_aload_n dX3_lots_27 rfl rfl ?_
          refine gr_getR q_0_2 fl_X3_24 dX3_lots_28 ?_
          refine gr_getIN q_7_6 fl_X3_126 dX3_lots_31 ?_
          refine gr_if_ne (tgt := 40) dX3_lots_34 (by decide) h (fun _ h => ?_) (fun _ h => ?_)
          · refine gr_bipush dX3_lots_37 gk_b_m4 ?_
            exact gq_retIM dX3_lots_39 rfl h
          · refine gr_aload_n dX3_lots_40 rfl rfl ?_
            refine gr_getR q_0_2 fl_X3_24 dX3_lots_41 ?_
            obtain ⟨x1, hx1, h⟩ := gn_bd h
            refine gc_VNI (c_X0_spare hx1) my_X0_spare mv_X0_spare ob_7 ml_X3_166 rfl rfl ⟨Nat.le_of_ble_eq_true rfl, Nat.le_of_ble_eq_true rfl⟩ (Nat.le_of_ble_eq_true rfl) dX3_lots_44 (fun fx1 => ?_)
            refine gr_iload_n dX3_lots_47 rfl rfl ?_
            refine gr_icmp_ge (tgt := 54) dX3_lots_48 (by decide) h (fun _ h => ?_) (fun _ h => ?_)
            · refine gr_bipush dX3_lots_51 gk_b_m2 ?_
              exact gq_retIM dX3_lots_53 rfl h
            · refine gr_iload_n dX3_lots_54 rfl rfl ?_
              refine gr_i2l dX3_lots_55 ?_
              refine gr_lstore_n (lv' := [some (.ref 0), some (.int p0), some (.int p1), some (.long p1.toInt64), none, none]) dX3_lots_56 rfl (by decide) rfl ?_
              refine gr_iconst dX3_lots_57 gk_i_0 ?_
              refine gr_istore (lv' := [some (.ref 0), some (.int p0), some (.int p1), some (.long p1.toInt64), none, some (.int (0 : Int32))]) dX3_lots_58 (by decide) rfl ?_
              refine gn_wkn [true, true, false, true, false, true] rfl ?_
              refine l_X3_lots_60 (fun m3 h => ?_) _ _ _ _ h
              refine gr_aload_n dX3_lots_88 rfl rfl ?_
              refine gr_getR q_0_2 fl_X3_24 dX3_lots_89 ?_
              refine gr_getIN q_7_8 fl_X3_185 dX3_lots_92 ?_
              obtain ⟨x4, hx4, h⟩ := gn_bd h
              refine gc_SI (c_J6_bitCount_0f7a4 hx4) my_J6_bitCount_0f7a4 ms_J6_bitCount_0f7a4 ml_X3_140 rfl rfl ⟨Nat.le_of_ble_eq_true rfl, Nat.le_of_ble_eq_true rfl⟩ (Nat.le_of_ble_eq_true rfl) dX3_lots_95 (fun fx4 => ?_)
              exact gq_retIM dX3_lots_98 rfl h
        · refine gr_iconst dX3_lots_25 gk_i_m1 ?_
          exact gq_retIM dX3_lots_26 rfl h
def f_X3_asked (m : gn_M) : Option (Int32) := some (m.1 0 10)
set_option maxRecDepth 100000 in
set_option maxHeartbeats 4000000 in
theorem c_X3_asked {m : gn_M} {v : Int32} (h : f_X3_asked m = some v) : gn_Cl yX3_asked cX3_asked 1 (some .int) 0 0 [.ref 0] m (some (.int v)) m := by
  rw [f_X3_asked] at h
  refine gn_met (lv := [some (.ref 0)]) pl_X3 rfl rfl (Nat.le_of_ble_eq_true rfl) ?_
  refine gr_aload_n dX3_asked_0 rfl rfl ?_
  refine gr_getI q_0_10 fl_X3_57 dX3_asked_1 ?_
  exact gq_retI dX3_asked_4 rfl h
def f_X3_upper (m : gn_M) : Option (Int64) := some (m.2 0 11)
set_option maxRecDepth 100000 in
set_option maxHeartbeats 4000000 in
theorem c_X3_upper {m : gn_M} {v : Int64} (h : f_X3_upper m = some v) : gn_Cl yX3_upper cX3_upper 1 (some .long) 0 0 [.ref 0] m (some (.long v)) m := by
  rw [f_X3_upper] at h
  refine gn_met (lv := [some (.ref 0)]) pl_X3 rfl rfl (Nat.le_of_ble_eq_true rfl) ?_
  refine gr_aload_n dX3_upper_0 rfl rfl ?_
  refine gr_getL q_0_11 fl_X3_60 dX3_upper_1 ?_
  exact gq_retL dX3_upper_4 trivial h
def f_X3_lower (m : gn_M) : Option (Int64) := some (m.2 0 12)
set_option maxRecDepth 100000 in
set_option maxHeartbeats 4000000 in
theorem c_X3_lower {m : gn_M} {v : Int64} (h : f_X3_lower m = some v) : gn_Cl yX3_lower cX3_lower 1 (some .long) 0 0 [.ref 0] m (some (.long v)) m := by
  rw [f_X3_lower] at h
  refine gn_met (lv := [some (.ref 0)]) pl_X3 rfl rfl (Nat.le_of_ble_eq_true rfl) ?_
  refine gr_aload_n dX3_lower_0 rfl rfl ?_
  refine gr_getL q_0_12 fl_X3_64 dX3_lower_1 ?_
  exact gq_retL dX3_lower_4 trivial h
def L_X2_present_r_4 (n : Nat) (m : gn_M) (k : Int32 → Option (Int32)) : Nat → Int32 → Int32 → Option (Int32)
  | 0, _, _ => none
  | f + 1, v1, v2 => (if v2 < (6 : Int32) then gn_rd m 3 6 v2 (fun x1 => (if x1 < 0 then L_X2_present_r_4 n m k f v1 (v2 + (1 : Int32)) else L_X2_present_r_4 n m k f (v1 + (1 : Int32)) (v2 + (1 : Int32)))) else k v1)
set_option maxRecDepth 100000 in
set_option maxHeartbeats 4000000 in
theorem l_X2_present_r_4 {n : Nat} {m : gn_M} {k : Int32 → Option (Int32)} {v : Int32} (hk : ∀ (e1 : Int32), k e1 = some v → gn_Go RX2 cX2_present 3 0 0 (some .int) none 31 [none, some (.int e1), none] [] m (some (.int v)) m) : ∀ (f : Nat) (v1 : Int32) (v2 : Int32), L_X2_present_r_4 n m k f v1 v2 = some v → gn_Go RX2 cX2_present 3 0 0 (some .int) none 4 [some (.ref 1), some (.int v1), some (.int v2)] [] m (some (.int v)) m := by
  intro f
  induction f with
  | zero =>
    intro v1 v2 h
    cases h
  | succ f ih =>
    intro v1 v2 h
    rw [L_X2_present_r_4] at h
    refine gr_iload_n dX2_present_4 rfl rfl ?_
    refine gr_aload_n dX2_present_5 rfl rfl ?_
    refine gr_getR q_1_1 fl_X2_14 dX2_present_6 ?_
    refine gr_alen (v := (6 : Int32)) s_3 (by decide) (by decide) dX2_present_9 ?_
    refine gr_icmp_ge (tgt := 31) dX2_present_10 (by decide) h (fun _ h => ?_) (fun _ h => ?_)
    · refine gr_aload_n dX2_present_13 rfl rfl ?_
      refine gr_getR q_1_1 fl_X2_14 dX2_present_14 ?_
      refine gr_iload_n dX2_present_17 rfl rfl ?_
      refine gq_iaload s_3 dX2_present_18 h (fun x1 h => ?_)
      refine gr_if_lt (tgt := 25) dX2_present_19 (by decide) h (fun _ h => ?_) (fun _ h => ?_)
      · refine gr_iinc (lv' := [some (.ref 1), some (.int v1), some (.int (v2 + (1 : Int32)))]) dX2_present_25 rfl gk_i_1 (by decide) rfl ?_
        refine gr_goto (tgt := 4) dX2_present_28 (by decide) ?_
        exact ih _ _ h
      · refine gr_iinc (lv' := [some (.ref 1), some (.int (v1 + (1 : Int32))), some (.int v2)]) dX2_present_22 rfl gk_i_1 (by decide) rfl ?_
        refine gr_iinc (lv' := [some (.ref 1), some (.int (v1 + (1 : Int32))), some (.int (v2 + (1 : Int32)))]) dX2_present_25 rfl gk_i_1 (by decide) rfl ?_
        refine gr_goto (tgt := 4) dX2_present_28 (by decide) ?_
        exact ih _ _ h
    · refine gn_wkn [false, true, false] rfl ?_
      exact hk _ h
def f_X2_present_r (n : Nat) (m : gn_M) : Option (Int32) := L_X2_present_r_4 n m (fun (e2 : Int32) => some e2) n (0 : Int32) (0 : Int32)
set_option maxRecDepth 100000 in
set_option maxHeartbeats 4000000 in
theorem c_X2_present_r {n : Nat} {m : gn_M} {v : Int32} (h : f_X2_present_r n m = some v) : gn_Cl yX2_present cX2_present 3 (some .int) 0 0 [.ref 1] m (some (.int v)) m := by
  rw [f_X2_present_r] at h
  refine gn_met (lv := [some (.ref 1), none, none]) pl_X2 rfl rfl (Nat.le_of_ble_eq_true rfl) ?_
  refine gr_iconst dX2_present_0 gk_i_0 ?_
  refine gr_istore_n (lv' := [some (.ref 1), some (.int (0 : Int32)), none]) dX2_present_1 rfl (by decide) rfl ?_
  refine gr_iconst dX2_present_2 gk_i_0 ?_
  refine gr_istore_n (lv' := [some (.ref 1), some (.int (0 : Int32)), some (.int (0 : Int32))]) dX2_present_3 rfl (by decide) rfl ?_
  refine l_X2_present_r_4 (fun e2 h => ?_) _ _ _ h
  refine gr_iload_n dX2_present_31 rfl rfl ?_
  exact gq_retI dX2_present_32 rfl h
def L_X2_present_t_4 (n : Nat) (m : gn_M) (k : Int32 → Option (Int32)) : Nat → Int32 → Int32 → Option (Int32)
  | 0, _, _ => none
  | f + 1, v1, v2 => (if v2 < (4 : Int32) then gn_rd m 6 4 v2 (fun x1 => (if x1 < 0 then L_X2_present_t_4 n m k f v1 (v2 + (1 : Int32)) else L_X2_present_t_4 n m k f (v1 + (1 : Int32)) (v2 + (1 : Int32)))) else k v1)
set_option maxRecDepth 100000 in
set_option maxHeartbeats 4000000 in
theorem l_X2_present_t_4 {n : Nat} {m : gn_M} {k : Int32 → Option (Int32)} {v : Int32} (hk : ∀ (e1 : Int32), k e1 = some v → gn_Go RX2 cX2_present 3 0 0 (some .int) none 31 [none, some (.int e1), none] [] m (some (.int v)) m) : ∀ (f : Nat) (v1 : Int32) (v2 : Int32), L_X2_present_t_4 n m k f v1 v2 = some v → gn_Go RX2 cX2_present 3 0 0 (some .int) none 4 [some (.ref 4), some (.int v1), some (.int v2)] [] m (some (.int v)) m := by
  intro f
  induction f with
  | zero =>
    intro v1 v2 h
    cases h
  | succ f ih =>
    intro v1 v2 h
    rw [L_X2_present_t_4] at h
    refine gr_iload_n dX2_present_4 rfl rfl ?_
    refine gr_aload_n dX2_present_5 rfl rfl ?_
    refine gr_getR q_4_1 fl_X2_14 dX2_present_6 ?_
    refine gr_alen (v := (4 : Int32)) s_6 (by decide) (by decide) dX2_present_9 ?_
    refine gr_icmp_ge (tgt := 31) dX2_present_10 (by decide) h (fun _ h => ?_) (fun _ h => ?_)
    · refine gr_aload_n dX2_present_13 rfl rfl ?_
      refine gr_getR q_4_1 fl_X2_14 dX2_present_14 ?_
      refine gr_iload_n dX2_present_17 rfl rfl ?_
      refine gq_iaload s_6 dX2_present_18 h (fun x1 h => ?_)
      refine gr_if_lt (tgt := 25) dX2_present_19 (by decide) h (fun _ h => ?_) (fun _ h => ?_)
      · refine gr_iinc (lv' := [some (.ref 4), some (.int v1), some (.int (v2 + (1 : Int32)))]) dX2_present_25 rfl gk_i_1 (by decide) rfl ?_
        refine gr_goto (tgt := 4) dX2_present_28 (by decide) ?_
        exact ih _ _ h
      · refine gr_iinc (lv' := [some (.ref 4), some (.int (v1 + (1 : Int32))), some (.int v2)]) dX2_present_22 rfl gk_i_1 (by decide) rfl ?_
        refine gr_iinc (lv' := [some (.ref 4), some (.int (v1 + (1 : Int32))), some (.int (v2 + (1 : Int32)))]) dX2_present_25 rfl gk_i_1 (by decide) rfl ?_
        refine gr_goto (tgt := 4) dX2_present_28 (by decide) ?_
        exact ih _ _ h
    · refine gn_wkn [false, true, false] rfl ?_
      exact hk _ h
def f_X2_present_t (n : Nat) (m : gn_M) : Option (Int32) := L_X2_present_t_4 n m (fun (e2 : Int32) => some e2) n (0 : Int32) (0 : Int32)
set_option maxRecDepth 100000 in
set_option maxHeartbeats 4000000 in
theorem c_X2_present_t {n : Nat} {m : gn_M} {v : Int32} (h : f_X2_present_t n m = some v) : gn_Cl yX2_present cX2_present 3 (some .int) 0 0 [.ref 4] m (some (.int v)) m := by
  rw [f_X2_present_t] at h
  refine gn_met (lv := [some (.ref 4), none, none]) pl_X2 rfl rfl (Nat.le_of_ble_eq_true rfl) ?_
  refine gr_iconst dX2_present_0 gk_i_0 ?_
  refine gr_istore_n (lv' := [some (.ref 4), some (.int (0 : Int32)), none]) dX2_present_1 rfl (by decide) rfl ?_
  refine gr_iconst dX2_present_2 gk_i_0 ?_
  refine gr_istore_n (lv' := [some (.ref 4), some (.int (0 : Int32)), some (.int (0 : Int32))]) dX2_present_3 rfl (by decide) rfl ?_
  refine l_X2_present_t_4 (fun e2 h => ?_) _ _ _ h
  refine gr_iload_n dX2_present_31 rfl rfl ?_
  exact gq_retI dX2_present_32 rfl h
def L_X3_keptGates_4 (n : Nat) (m : gn_M) (k : Int32 → Option (Int32)) : Nat → Int32 → Int32 → Option (Int32)
  | 0, _, _ => none
  | f + 1, v1, v2 => (if v2 < (3 : Int32) then gn_rd m 23 3 v2 (fun x1 => (if x1 < 0 then L_X3_keptGates_4 n m k f v1 (v2 + (1 : Int32)) else L_X3_keptGates_4 n m k f (v1 + (1 : Int32)) (v2 + (1 : Int32)))) else k v1)
set_option maxRecDepth 100000 in
set_option maxHeartbeats 4000000 in
theorem l_X3_keptGates_4 {n : Nat} {m : gn_M} {k : Int32 → Option (Int32)} {v : Int32} (hk : ∀ (e1 : Int32), k e1 = some v → gn_Go RX3 cX3_keptGates 3 0 0 (some .int) none 27 [none, some (.int e1), none] [] m (some (.int v)) m) : ∀ (f : Nat) (v1 : Int32) (v2 : Int32), L_X3_keptGates_4 n m k f v1 v2 = some v → gn_Go RX3 cX3_keptGates 3 0 0 (some .int) none 4 [some (.ref 0), some (.int v1), some (.int v2)] [] m (some (.int v)) m := by
  intro f
  induction f with
  | zero =>
    intro v1 v2 h
    cases h
  | succ f ih =>
    intro v1 v2 h
    rw [L_X3_keptGates_4] at h
    refine gr_iload_n dX3_keptGates_4 rfl rfl ?_
    refine gr_iconst dX3_keptGates_5 gk_i_3 ?_
    refine gr_icmp_ge (tgt := 27) dX3_keptGates_6 (by decide) h (fun _ h => ?_) (fun _ h => ?_)
    · refine gr_aload_n dX3_keptGates_9 rfl rfl ?_
      refine gr_getR q_0_5 fl_X3_40 dX3_keptGates_10 ?_
      refine gr_iload_n dX3_keptGates_13 rfl rfl ?_
      refine gq_iaload s_23 dX3_keptGates_14 h (fun x1 h => ?_)
      refine gr_if_lt (tgt := 21) dX3_keptGates_15 (by decide) h (fun _ h => ?_) (fun _ h => ?_)
      · refine gr_iinc (lv' := [some (.ref 0), some (.int v1), some (.int (v2 + (1 : Int32)))]) dX3_keptGates_21 rfl gk_i_1 (by decide) rfl ?_
        refine gr_goto (tgt := 4) dX3_keptGates_24 (by decide) ?_
        exact ih _ _ h
      · refine gr_iinc (lv' := [some (.ref 0), some (.int (v1 + (1 : Int32))), some (.int v2)]) dX3_keptGates_18 rfl gk_i_1 (by decide) rfl ?_
        refine gr_iinc (lv' := [some (.ref 0), some (.int (v1 + (1 : Int32))), some (.int (v2 + (1 : Int32)))]) dX3_keptGates_21 rfl gk_i_1 (by decide) rfl ?_
        refine gr_goto (tgt := 4) dX3_keptGates_24 (by decide) ?_
        exact ih _ _ h
    · refine gn_wkn [false, true, false] rfl ?_
      exact hk _ h
def f_X3_keptGates (n : Nat) (m : gn_M) : Option (Int32) := L_X3_keptGates_4 n m (fun (e2 : Int32) => some e2) n (0 : Int32) (0 : Int32)
set_option maxRecDepth 100000 in
set_option maxHeartbeats 4000000 in
theorem c_X3_keptGates {n : Nat} {m : gn_M} {v : Int32} (h : f_X3_keptGates n m = some v) : gn_Cl yX3_keptGates cX3_keptGates 3 (some .int) 0 0 [.ref 0] m (some (.int v)) m := by
  rw [f_X3_keptGates] at h
  refine gn_met (lv := [some (.ref 0), none, none]) pl_X3 rfl rfl (Nat.le_of_ble_eq_true rfl) ?_
  refine gr_iconst dX3_keptGates_0 gk_i_0 ?_
  refine gr_istore_n (lv' := [some (.ref 0), some (.int (0 : Int32)), none]) dX3_keptGates_1 rfl (by decide) rfl ?_
  refine gr_iconst dX3_keptGates_2 gk_i_0 ?_
  refine gr_istore_n (lv' := [some (.ref 0), some (.int (0 : Int32)), some (.int (0 : Int32))]) dX3_keptGates_3 rfl (by decide) rfl ?_
  refine l_X3_keptGates_4 (fun e2 h => ?_) _ _ _ h
  refine gr_iload_n dX3_keptGates_27 rfl rfl ?_
  exact gq_retI dX3_keptGates_28 rfl h
def f_X3_countOf (n : Nat) (m : gn_M) (p0 : Int32) : Option (Int32) := (if p0 = 0 then some (m.1 7 6) else (if p0 = 1 then (f_J6_bitCount_0f7a4 (m.1 7 8)).bind (fun x1 => some x1) else (if p0 = 2 then some (m.1 7 7) else (if p0 = 3 then some (m.1 7 9) else (if p0 = 4 then some (m.1 7 8) else (if p0 = 5 then some (m.1 7 10) else (if p0 = 6 then (f_X0_opened n m).bind (fun x2 => (f_J6_bitCount_0f7a4 x2).bind (fun x3 => some x3)) else (if p0 = 7 then (f_X2_present_r n m).bind (fun x4 => some x4) else (if p0 = 8 then (f_X2_present_t n m).bind (fun x5 => some x5) else (if p0 = 9 then (f_X3_keptGates n m).bind (fun x6 => some x6) else (if p0 = 10 then gn_rd m 31 6 (4 : Int32) (fun x7 => gn_rd m 31 6 (5 : Int32) (fun x8 => (f_J6_bitCount_0f7a4 (x7 ||| x8)).bind (fun x9 => some x9))) else gn_rd m 31 6 (1 : Int32) (fun x10 => (f_J6_bitCount_0f7a4 x10).bind (fun x11 => some x11)))))))))))))
set_option maxRecDepth 100000 in
set_option maxHeartbeats 4000000 in
theorem c_X3_countOf {n : Nat} {m : gn_M} {p0 : Int32} {v : Int32} (h : f_X3_countOf n m p0 = some v) : gn_Cl yX3_countOf cX3_countOf 2 (some .int) 4 85 [.ref 0, .int p0] m (some (.int v)) m := by
  rw [f_X3_countOf] at h
  refine gn_met (lv := [some (.ref 0), some (.int p0)]) pl_X3 rfl rfl (Nat.le_of_ble_eq_true rfl) ?_
  refine gr_iload_n dX3_countOf_0 rfl rfl ?_
  refine gn_sw h (fun hs0 h => ?_) (fun hs0 h => ?_)
  · refine gr_tsIn (tgt := 60) dX3_countOf_1 hs0 (by decide) (by decide) rfl (by decide) ?_
    refine gr_aload_n dX3_countOf_60 rfl rfl ?_
    refine gr_getR q_0_2 fl_X3_24 dX3_countOf_61 ?_
    refine gr_getIN q_7_6 fl_X3_126 dX3_countOf_64 ?_
    exact gq_retI dX3_countOf_67 rfl h
  refine gn_sw h (fun hs1 h => ?_) (fun hs1 h => ?_)
  · refine gr_tsIn (tgt := 68) dX3_countOf_1 hs1 (by decide) (by decide) rfl (by decide) ?_
    refine gr_aload_n dX3_countOf_68 rfl rfl ?_
    refine gr_getR q_0_2 fl_X3_24 dX3_countOf_69 ?_
    refine gr_getIN q_7_8 fl_X3_185 dX3_countOf_72 ?_
    obtain ⟨x1, hx1, h⟩ := gn_bd h
    refine gc_SI (c_J6_bitCount_0f7a4 hx1) my_J6_bitCount_0f7a4 ms_J6_bitCount_0f7a4 ml_X3_140 rfl rfl ⟨Nat.le_of_ble_eq_true rfl, Nat.le_of_ble_eq_true rfl⟩ (Nat.le_of_ble_eq_true rfl) dX3_countOf_75 (fun fx1 => ?_)
    exact gq_retI dX3_countOf_78 rfl h
  refine gn_sw h (fun hs2 h => ?_) (fun hs2 h => ?_)
  · refine gr_tsIn (tgt := 79) dX3_countOf_1 hs2 (by decide) (by decide) rfl (by decide) ?_
    refine gr_aload_n dX3_countOf_79 rfl rfl ?_
    refine gr_getR q_0_2 fl_X3_24 dX3_countOf_80 ?_
    refine gr_getIN q_7_7 fl_X3_188 dX3_countOf_83 ?_
    exact gq_retI dX3_countOf_86 rfl h
  refine gn_sw h (fun hs3 h => ?_) (fun hs3 h => ?_)
  · refine gr_tsIn (tgt := 87) dX3_countOf_1 hs3 (by decide) (by decide) rfl (by decide) ?_
    refine gr_aload_n dX3_countOf_87 rfl rfl ?_
    refine gr_getR q_0_2 fl_X3_24 dX3_countOf_88 ?_
    refine gr_getIN q_7_9 fl_X3_197 dX3_countOf_91 ?_
    exact gq_retI dX3_countOf_94 rfl h
  refine gn_sw h (fun hs4 h => ?_) (fun hs4 h => ?_)
  · refine gr_tsIn (tgt := 95) dX3_countOf_1 hs4 (by decide) (by decide) rfl (by decide) ?_
    refine gr_aload_n dX3_countOf_95 rfl rfl ?_
    refine gr_getR q_0_2 fl_X3_24 dX3_countOf_96 ?_
    refine gr_getIN q_7_8 fl_X3_185 dX3_countOf_99 ?_
    exact gq_retI dX3_countOf_102 rfl h
  refine gn_sw h (fun hs5 h => ?_) (fun hs5 h => ?_)
  · refine gr_tsIn (tgt := 103) dX3_countOf_1 hs5 (by decide) (by decide) rfl (by decide) ?_
    refine gr_aload_n dX3_countOf_103 rfl rfl ?_
    refine gr_getR q_0_2 fl_X3_24 dX3_countOf_104 ?_
    refine gr_getIN q_7_10 fl_X3_179 dX3_countOf_107 ?_
    exact gq_retI dX3_countOf_110 rfl h
  refine gn_sw h (fun hs6 h => ?_) (fun hs6 h => ?_)
  · refine gr_tsIn (tgt := 111) dX3_countOf_1 hs6 (by decide) (by decide) rfl (by decide) ?_
    refine gr_aload_n dX3_countOf_111 rfl rfl ?_
    refine gr_getR q_0_2 fl_X3_24 dX3_countOf_112 ?_
    obtain ⟨x2, hx2, h⟩ := gn_bd h
    refine gc_VNI (c_X0_opened hx2) my_X0_opened mv_X0_opened ob_7 ml_X3_200 rfl rfl ⟨Nat.le_of_ble_eq_true rfl, Nat.le_of_ble_eq_true rfl⟩ (Nat.le_of_ble_eq_true rfl) dX3_countOf_115 (fun fx2 => ?_)
    obtain ⟨x3, hx3, h⟩ := gn_bd h
    refine gc_SI (c_J6_bitCount_0f7a4 hx3) my_J6_bitCount_0f7a4 ms_J6_bitCount_0f7a4 ml_X3_140 rfl rfl ⟨Nat.le_of_ble_eq_true rfl, Nat.le_of_ble_eq_true rfl⟩ (Nat.le_of_ble_eq_true rfl) dX3_countOf_118 (fun fx3 => ?_)
    exact gq_retI dX3_countOf_121 rfl h
  refine gn_sw h (fun hs7 h => ?_) (fun hs7 h => ?_)
  · refine gr_tsIn (tgt := 122) dX3_countOf_1 hs7 (by decide) (by decide) rfl (by decide) ?_
    refine gr_aload_n dX3_countOf_122 rfl rfl ?_
    refine gr_getR q_0_0 fl_X3_14 dX3_countOf_123 ?_
    obtain ⟨x4, hx4, h⟩ := gn_bd h
    refine gc_VNI (c_X2_present_r hx4) my_X2_present mv_X2_present ob_1 ml_X3_312 rfl rfl ⟨Nat.le_of_ble_eq_true rfl, Nat.le_of_ble_eq_true rfl⟩ (Nat.le_of_ble_eq_true rfl) dX3_countOf_126 (fun fx4 => ?_)
    exact gq_retI dX3_countOf_129 rfl h
  refine gn_sw h (fun hs8 h => ?_) (fun hs8 h => ?_)
  · refine gr_tsIn (tgt := 130) dX3_countOf_1 hs8 (by decide) (by decide) rfl (by decide) ?_
    refine gr_aload_n dX3_countOf_130 rfl rfl ?_
    refine gr_getR q_0_1 fl_X3_18 dX3_countOf_131 ?_
    obtain ⟨x5, hx5, h⟩ := gn_bd h
    refine gc_VNI (c_X2_present_t hx5) my_X2_present mv_X2_present ob_4 ml_X3_312 rfl rfl ⟨Nat.le_of_ble_eq_true rfl, Nat.le_of_ble_eq_true rfl⟩ (Nat.le_of_ble_eq_true rfl) dX3_countOf_134 (fun fx5 => ?_)
    exact gq_retI dX3_countOf_137 rfl h
  refine gn_sw h (fun hs9 h => ?_) (fun hs9 h => ?_)
  · refine gr_tsIn (tgt := 138) dX3_countOf_1 hs9 (by decide) (by decide) rfl (by decide) ?_
    refine gr_aload_n dX3_countOf_138 rfl rfl ?_
    obtain ⟨x6, hx6, h⟩ := gn_bd h
    refine gc_VI (c_X3_keptGates hx6) my_X3_keptGates mv_X3_keptGates ob_0 ml_X3_315 rfl rfl ⟨Nat.le_of_ble_eq_true rfl, Nat.le_of_ble_eq_true rfl⟩ (Nat.le_of_ble_eq_true rfl) dX3_countOf_139 (fun fx6 => ?_)
    exact gq_retI dX3_countOf_142 rfl h
  refine gn_sw h (fun hs10 h => ?_) (fun hs10 h => ?_)
  · refine gr_tsIn (tgt := 143) dX3_countOf_1 hs10 (by decide) (by decide) rfl (by decide) ?_
    refine gr_aload_n dX3_countOf_143 rfl rfl ?_
    refine gr_getR q_0_2 fl_X3_24 dX3_countOf_144 ?_
    refine gr_getRN q_7_4 fl_X3_318 dX3_countOf_147 ?_
    refine gr_iconst dX3_countOf_150 gk_i_4 ?_
    refine gq_iaload s_31 dX3_countOf_151 h (fun x7 h => ?_)
    refine gr_aload_n dX3_countOf_152 rfl rfl ?_
    refine gr_getR q_0_2 fl_X3_24 dX3_countOf_153 ?_
    refine gr_getRN q_7_4 fl_X3_318 dX3_countOf_156 ?_
    refine gr_iconst dX3_countOf_159 gk_i_5 ?_
    refine gq_iaload s_31 dX3_countOf_160 h (fun x8 h => ?_)
    refine gr_ior dX3_countOf_161 ?_
    obtain ⟨x9, hx9, h⟩ := gn_bd h
    refine gc_SI (c_J6_bitCount_0f7a4 hx9) my_J6_bitCount_0f7a4 ms_J6_bitCount_0f7a4 ml_X3_140 rfl rfl ⟨Nat.le_of_ble_eq_true rfl, Nat.le_of_ble_eq_true rfl⟩ (Nat.le_of_ble_eq_true rfl) dX3_countOf_162 (fun fx9 => ?_)
    exact gq_retI dX3_countOf_165 rfl h
  refine gr_tsOut (tgt := 166) dX3_countOf_1 (by have := gn_out (x := p0) 11 0 (fun j hj => match j, hj with | 0, _ => hs0 | 1, _ => hs1 | 2, _ => hs2 | 3, _ => hs3 | 4, _ => hs4 | 5, _ => hs5 | 6, _ => hs6 | 7, _ => hs7 | 8, _ => hs8 | 9, _ => hs9 | 10, _ => hs10 | j + 11, hj => absurd hj (by omega)); omega) (by decide) ?_
  refine gr_aload_n dX3_countOf_166 rfl rfl ?_
  refine gr_getR q_0_2 fl_X3_24 dX3_countOf_167 ?_
  refine gr_getRN q_7_4 fl_X3_318 dX3_countOf_170 ?_
  refine gr_iconst dX3_countOf_173 gk_i_1 ?_
  refine gq_iaload s_31 dX3_countOf_174 h (fun x10 h => ?_)
  obtain ⟨x11, hx11, h⟩ := gn_bd h
  refine gc_SI (c_J6_bitCount_0f7a4 hx11) my_J6_bitCount_0f7a4 ms_J6_bitCount_0f7a4 ml_X3_140 rfl rfl ⟨Nat.le_of_ble_eq_true rfl, Nat.le_of_ble_eq_true rfl⟩ (Nat.le_of_ble_eq_true rfl) dX3_countOf_175 (fun fx11 => ?_)
  exact gq_retI dX3_countOf_178 rfl h
def f_X3_count (n : Nat) (m : gn_M) (p0 : Int32) : Option (Int32) := (if p0 < 0 then some (-1 : Int32) else (if p0 < (12 : Int32) then (f_X3_countOf n m p0).bind (fun x1 => some x1) else some (-1 : Int32)))
set_option maxRecDepth 100000 in
set_option maxHeartbeats 4000000 in
theorem c_X3_count {n : Nat} {m : gn_M} {p0 : Int32} {v : Int32} (h : f_X3_count n m p0 = some v) : gn_Cl yX3_count cX3_count 2 (some .int) 5 106 [.ref 0, .int p0] m (some (.int v)) m := by
  rw [f_X3_count] at h
  refine gn_met (lv := [some (.ref 0), some (.int p0)]) pl_X3 rfl rfl (Nat.le_of_ble_eq_true rfl) ?_
  refine gr_iload_n dX3_count_0 rfl rfl ?_
  refine gr_if_lt (tgt := 10) dX3_count_1 (by decide) h (fun _ h => ?_) (fun _ h => ?_)
  · refine gr_iconst dX3_count_10 gk_i_m1 ?_
    refine gr_goto (tgt := 19) dX3_count_11 (by decide) ?_
    exact gq_retI dX3_count_19 rfl h
  · refine gr_iload_n dX3_count_4 rfl rfl ?_
    refine gr_bipush dX3_count_5 gk_b_12 ?_
    refine gr_icmp_lt (tgt := 14) dX3_count_7 (by decide) h (fun _ h => ?_) (fun _ h => ?_)
    · refine gr_aload_n dX3_count_14 rfl rfl ?_
      refine gr_iload_n dX3_count_15 rfl rfl ?_
      obtain ⟨x1, hx1, h⟩ := gn_bd h
      refine gc_VI (c_X3_countOf hx1) my_X3_countOf mv_X3_countOf ob_0 ml_X3_284 rfl rfl ⟨Nat.le_of_ble_eq_true rfl, Nat.le_of_ble_eq_true rfl⟩ (Nat.le_of_ble_eq_true rfl) dX3_count_16 (fun fx1 => ?_)
      exact gq_retI dX3_count_19 rfl h
    · refine gr_iconst dX3_count_10 gk_i_m1 ?_
      refine gr_goto (tgt := 19) dX3_count_11 (by decide) ?_
      exact gq_retI dX3_count_19 rfl h
def f_X3_finding (m : gn_M) : Option (Int32) := some (m.1 0 9)
set_option maxRecDepth 100000 in
set_option maxHeartbeats 4000000 in
theorem c_X3_finding {m : gn_M} {v : Int32} (h : f_X3_finding m = some v) : gn_Cl yX3_finding cX3_finding 1 (some .int) 0 0 [.ref 0] m (some (.int v)) m := by
  rw [f_X3_finding] at h
  refine gn_met (lv := [some (.ref 0)]) pl_X3 rfl rfl (Nat.le_of_ble_eq_true rfl) ?_
  refine gr_aload_n dX3_finding_0 rfl rfl ?_
  refine gr_getI q_0_9 fl_X3_53 dX3_finding_1 ?_
  exact gq_retI dX3_finding_4 rfl h
def f_X3_findings (m : gn_M) (p0 : Int32) : Option (Int32) := (if p0 < (1 : Int32) then some (-1 : Int32) else (if (5 : Int32) < p0 then some (-1 : Int32) else gn_rd m 26 6 p0 (fun x1 => some x1)))
set_option maxRecDepth 100000 in
set_option maxHeartbeats 4000000 in
theorem c_X3_findings {m : gn_M} {p0 : Int32} {v : Int32} (h : f_X3_findings m p0 = some v) : gn_Cl yX3_findings cX3_findings 2 (some .int) 0 0 [.ref 0, .int p0] m (some (.int v)) m := by
  rw [f_X3_findings] at h
  refine gn_met (lv := [some (.ref 0), some (.int p0)]) pl_X3 rfl rfl (Nat.le_of_ble_eq_true rfl) ?_
  refine gr_iload_n dX3_findings_0 rfl rfl ?_
  refine gr_iconst dX3_findings_1 gk_i_1 ?_
  refine gr_icmp_lt (tgt := 10) dX3_findings_2 (by decide) h (fun _ h => ?_) (fun _ h => ?_)
  · refine gr_iconst dX3_findings_10 gk_i_m1 ?_
    refine gr_goto (tgt := 20) dX3_findings_11 (by decide) ?_
    exact gq_retI dX3_findings_20 rfl h
  · refine gr_iload_n dX3_findings_5 rfl rfl ?_
    refine gr_iconst dX3_findings_6 gk_i_5 ?_
    refine gr_icmp_le (tgt := 14) dX3_findings_7 (by decide) h (fun _ h => ?_) (fun _ h => ?_)
    · refine gr_iconst dX3_findings_10 gk_i_m1 ?_
      refine gr_goto (tgt := 20) dX3_findings_11 (by decide) ?_
      exact gq_retI dX3_findings_20 rfl h
    · refine gr_aload_n dX3_findings_14 rfl rfl ?_
      refine gr_getR q_0_8 fl_X3_50 dX3_findings_15 ?_
      refine gr_iload_n dX3_findings_18 rfl rfl ?_
      refine gq_iaload s_26 dX3_findings_19 h (fun x1 h => ?_)
      exact gq_retI dX3_findings_20 rfl h
def L_X2_digestFrom_r_33 (n : Nat) (m : gn_M) (a5 : Int32) (k : Int64 → Option (Int64)) : Nat → Int64 → Int32 → Option (Int64)
  | 0, _, _ => none
  | f + 1, v3, v6 => gn_rd m 3 6 a5 (fun x2 => (if v6 < x2 then gn_ra 10 6 a5 (fun k3 => gn_rd m k3 40 v6 (fun x4 => L_X2_digestFrom_r_33 n m a5 k f (((31 : Int64) * v3) + x4.toInt64) (v6 + (1 : Int32)))) else k v3))
set_option maxRecDepth 100000 in
set_option maxHeartbeats 4000000 in
theorem l_X2_digestFrom_r_33 {n : Nat} {m : gn_M} {a5 : Int32} {k : Int64 → Option (Int64)} {v : Int64} (hk : ∀ (e3 : Int64), k e3 = some v → gn_Go RX2 cX2_digestFrom 7 0 0 (some .long) none 69 [some (.ref 1), none, none, some (.long e3), none, some (.int a5), none] [] m (some (.long v)) m) : ∀ (f : Nat) (v3 : Int64) (v6 : Int32), L_X2_digestFrom_r_33 n m a5 k f v3 v6 = some v → gn_Go RX2 cX2_digestFrom 7 0 0 (some .long) none 33 [some (.ref 1), none, none, some (.long v3), none, some (.int a5), some (.int v6)] [] m (some (.long v)) m := by
  intro f
  induction f with
  | zero =>
    intro v3 v6 h
    cases h
  | succ f ih =>
    intro v3 v6 h
    rw [L_X2_digestFrom_r_33] at h
    refine gr_iload dX2_digestFrom_33 rfl ?_
    refine gr_aload_n dX2_digestFrom_35 rfl rfl ?_
    refine gr_getR q_1_1 fl_X2_14 dX2_digestFrom_36 ?_
    refine gr_iload dX2_digestFrom_39 rfl ?_
    refine gq_iaload s_3 dX2_digestFrom_41 h (fun x2 h => ?_)
    refine gr_icmp_ge (tgt := 69) dX2_digestFrom_42 (by decide) h (fun _ h => ?_) (fun _ h => ?_)
    · refine gr_ldc2 kl_X2_28 dX2_digestFrom_45 ?_
      refine gr_lload_n dX2_digestFrom_48 rfl rfl ?_
      refine gr_lmul dX2_digestFrom_49 ?_
      refine gr_aload_n dX2_digestFrom_50 rfl rfl ?_
      refine gr_getR q_1_0 fl_X2_9 dX2_digestFrom_51 ?_
      refine gr_iload dX2_digestFrom_54 rfl ?_
      refine gq_aaload ra_2 dX2_digestFrom_56 h (fun k3 hk3 h => ?_)
      refine gr_iload dX2_digestFrom_57 rfl ?_
      refine gq_iaload hk3 dX2_digestFrom_59 h (fun x4 h => ?_)
      refine gr_i2l dX2_digestFrom_60 ?_
      refine gr_ladd dX2_digestFrom_61 ?_
      refine gr_lstore_n (lv' := [some (.ref 1), none, none, some (.long (((31 : Int64) * v3) + x4.toInt64)), none, some (.int a5), some (.int v6)]) dX2_digestFrom_62 rfl (by decide) rfl ?_
      refine gr_iinc (lv' := [some (.ref 1), none, none, some (.long (((31 : Int64) * v3) + x4.toInt64)), none, some (.int a5), some (.int (v6 + (1 : Int32)))]) dX2_digestFrom_63 rfl gk_i_1 (by decide) rfl ?_
      refine gr_goto (tgt := 33) dX2_digestFrom_66 (by decide) ?_
      exact ih _ _ h
    · refine gn_wkn [true, false, false, true, false, true, false] rfl ?_
      exact hk _ h
def L_X2_digestFrom_r_5 (n : Nat) (m : gn_M) (k : Int64 → Option (Int64)) : Nat → Int64 → Int32 → Option (Int64)
  | 0, _, _ => none
  | f + 1, v3, v5 => (if v5 < (6 : Int32) then gn_rd m 3 6 v5 (fun x1 => L_X2_digestFrom_r_33 n m v5 (fun (e5 : Int64) => L_X2_digestFrom_r_5 n m k f e5 (v5 + (1 : Int32))) n (((31 : Int64) * v3) + x1.toInt64) (0 : Int32)) else k v3)
set_option maxRecDepth 100000 in
set_option maxHeartbeats 4000000 in
theorem l_X2_digestFrom_r_5 {n : Nat} {m : gn_M} {k : Int64 → Option (Int64)} {v : Int64} (hk : ∀ (e3 : Int64), k e3 = some v → gn_Go RX2 cX2_digestFrom 7 0 0 (some .long) none 75 [none, none, none, some (.long e3), none, none, none] [] m (some (.long v)) m) : ∀ (f : Nat) (v3 : Int64) (v5 : Int32), L_X2_digestFrom_r_5 n m k f v3 v5 = some v → gn_Go RX2 cX2_digestFrom 7 0 0 (some .long) none 5 [some (.ref 1), none, none, some (.long v3), none, some (.int v5), none] [] m (some (.long v)) m := by
  intro f
  induction f with
  | zero =>
    intro v3 v5 h
    cases h
  | succ f ih =>
    intro v3 v5 h
    rw [L_X2_digestFrom_r_5] at h
    refine gr_iload dX2_digestFrom_5 rfl ?_
    refine gr_aload_n dX2_digestFrom_7 rfl rfl ?_
    refine gr_getR q_1_1 fl_X2_14 dX2_digestFrom_8 ?_
    refine gr_alen (v := (6 : Int32)) s_3 (by decide) (by decide) dX2_digestFrom_11 ?_
    refine gr_icmp_ge (tgt := 75) dX2_digestFrom_12 (by decide) h (fun _ h => ?_) (fun _ h => ?_)
    · refine gr_ldc2 kl_X2_28 dX2_digestFrom_15 ?_
      refine gr_lload_n dX2_digestFrom_18 rfl rfl ?_
      refine gr_lmul dX2_digestFrom_19 ?_
      refine gr_aload_n dX2_digestFrom_20 rfl rfl ?_
      refine gr_getR q_1_1 fl_X2_14 dX2_digestFrom_21 ?_
      refine gr_iload dX2_digestFrom_24 rfl ?_
      refine gq_iaload s_3 dX2_digestFrom_26 h (fun x1 h => ?_)
      refine gr_i2l dX2_digestFrom_27 ?_
      refine gr_ladd dX2_digestFrom_28 ?_
      refine gr_lstore_n (lv' := [some (.ref 1), none, none, some (.long (((31 : Int64) * v3) + x1.toInt64)), none, some (.int v5), none]) dX2_digestFrom_29 rfl (by decide) rfl ?_
      refine gr_iconst dX2_digestFrom_30 gk_i_0 ?_
      refine gr_istore (lv' := [some (.ref 1), none, none, some (.long (((31 : Int64) * v3) + x1.toInt64)), none, some (.int v5), some (.int (0 : Int32))]) dX2_digestFrom_31 (by decide) rfl ?_
      refine l_X2_digestFrom_r_33 (fun e5 h => ?_) _ _ _ h
      refine gr_iinc (lv' := [some (.ref 1), none, none, some (.long e5), none, some (.int (v5 + (1 : Int32))), none]) dX2_digestFrom_69 rfl gk_i_1 (by decide) rfl ?_
      refine gr_goto (tgt := 5) dX2_digestFrom_72 (by decide) ?_
      exact ih _ _ h
    · refine gn_wkn [false, false, false, true, false, false, false] rfl ?_
      exact hk _ h
def f_X2_digestFrom_r (n : Nat) (m : gn_M) (p0 : Int64) : Option (Int64) := L_X2_digestFrom_r_5 n m (fun (e6 : Int64) => some e6) n p0 (0 : Int32)
set_option maxRecDepth 100000 in
set_option maxHeartbeats 4000000 in
theorem c_X2_digestFrom_r {n : Nat} {m : gn_M} {p0 : Int64} {v : Int64} (h : f_X2_digestFrom_r n m p0 = some v) : gn_Cl yX2_digestFrom cX2_digestFrom 7 (some .long) 0 0 [.ref 1, .long p0] m (some (.long v)) m := by
  rw [f_X2_digestFrom_r] at h
  refine gn_met (lv := [some (.ref 1), some (.long p0), none, none, none, none, none]) pl_X2 rfl rfl (Nat.le_of_ble_eq_true rfl) ?_
  refine gr_lload_n dX2_digestFrom_0 rfl rfl ?_
  refine gr_lstore_n (lv' := [some (.ref 1), some (.long p0), none, some (.long p0), none, none, none]) dX2_digestFrom_1 rfl (by decide) rfl ?_
  refine gr_iconst dX2_digestFrom_2 gk_i_0 ?_
  refine gr_istore (lv' := [some (.ref 1), some (.long p0), none, some (.long p0), none, some (.int (0 : Int32)), none]) dX2_digestFrom_3 (by decide) rfl ?_
  refine gn_wkn [true, false, false, true, false, true, false] rfl ?_
  refine l_X2_digestFrom_r_5 (fun e6 h => ?_) _ _ _ h
  refine gr_lload_n dX2_digestFrom_75 rfl rfl ?_
  exact gq_retL dX2_digestFrom_76 trivial h
def L_X2_digestFrom_t_33 (n : Nat) (m : gn_M) (a5 : Int32) (k : Int64 → Option (Int64)) : Nat → Int64 → Int32 → Option (Int64)
  | 0, _, _ => none
  | f + 1, v3, v6 => gn_rd m 6 4 a5 (fun x2 => (if v6 < x2 then gn_ra 16 4 a5 (fun k3 => gn_rd m k3 60 v6 (fun x4 => L_X2_digestFrom_t_33 n m a5 k f (((31 : Int64) * v3) + x4.toInt64) (v6 + (1 : Int32)))) else k v3))
set_option maxRecDepth 100000 in
set_option maxHeartbeats 4000000 in
theorem l_X2_digestFrom_t_33 {n : Nat} {m : gn_M} {a5 : Int32} {k : Int64 → Option (Int64)} {v : Int64} (hk : ∀ (e3 : Int64), k e3 = some v → gn_Go RX2 cX2_digestFrom 7 0 0 (some .long) none 69 [some (.ref 4), none, none, some (.long e3), none, some (.int a5), none] [] m (some (.long v)) m) : ∀ (f : Nat) (v3 : Int64) (v6 : Int32), L_X2_digestFrom_t_33 n m a5 k f v3 v6 = some v → gn_Go RX2 cX2_digestFrom 7 0 0 (some .long) none 33 [some (.ref 4), none, none, some (.long v3), none, some (.int a5), some (.int v6)] [] m (some (.long v)) m := by
  intro f
  induction f with
  | zero =>
    intro v3 v6 h
    cases h
  | succ f ih =>
    intro v3 v6 h
    rw [L_X2_digestFrom_t_33] at h
    refine gr_iload dX2_digestFrom_33 rfl ?_
    refine gr_aload_n dX2_digestFrom_35 rfl rfl ?_
    refine gr_getR q_4_1 fl_X2_14 dX2_digestFrom_36 ?_
    refine gr_iload dX2_digestFrom_39 rfl ?_
    refine gq_iaload s_6 dX2_digestFrom_41 h (fun x2 h => ?_)
    refine gr_icmp_ge (tgt := 69) dX2_digestFrom_42 (by decide) h (fun _ h => ?_) (fun _ h => ?_)
    · refine gr_ldc2 kl_X2_28 dX2_digestFrom_45 ?_
      refine gr_lload_n dX2_digestFrom_48 rfl rfl ?_
      refine gr_lmul dX2_digestFrom_49 ?_
      refine gr_aload_n dX2_digestFrom_50 rfl rfl ?_
      refine gr_getR q_4_0 fl_X2_9 dX2_digestFrom_51 ?_
      refine gr_iload dX2_digestFrom_54 rfl ?_
      refine gq_aaload ra_5 dX2_digestFrom_56 h (fun k3 hk3 h => ?_)
      refine gr_iload dX2_digestFrom_57 rfl ?_
      refine gq_iaload hk3 dX2_digestFrom_59 h (fun x4 h => ?_)
      refine gr_i2l dX2_digestFrom_60 ?_
      refine gr_ladd dX2_digestFrom_61 ?_
      refine gr_lstore_n (lv' := [some (.ref 4), none, none, some (.long (((31 : Int64) * v3) + x4.toInt64)), none, some (.int a5), some (.int v6)]) dX2_digestFrom_62 rfl (by decide) rfl ?_
      refine gr_iinc (lv' := [some (.ref 4), none, none, some (.long (((31 : Int64) * v3) + x4.toInt64)), none, some (.int a5), some (.int (v6 + (1 : Int32)))]) dX2_digestFrom_63 rfl gk_i_1 (by decide) rfl ?_
      refine gr_goto (tgt := 33) dX2_digestFrom_66 (by decide) ?_
      exact ih _ _ h
    · refine gn_wkn [true, false, false, true, false, true, false] rfl ?_
      exact hk _ h
def L_X2_digestFrom_t_5 (n : Nat) (m : gn_M) (k : Int64 → Option (Int64)) : Nat → Int64 → Int32 → Option (Int64)
  | 0, _, _ => none
  | f + 1, v3, v5 => (if v5 < (4 : Int32) then gn_rd m 6 4 v5 (fun x1 => L_X2_digestFrom_t_33 n m v5 (fun (e5 : Int64) => L_X2_digestFrom_t_5 n m k f e5 (v5 + (1 : Int32))) n (((31 : Int64) * v3) + x1.toInt64) (0 : Int32)) else k v3)
set_option maxRecDepth 100000 in
set_option maxHeartbeats 4000000 in
theorem l_X2_digestFrom_t_5 {n : Nat} {m : gn_M} {k : Int64 → Option (Int64)} {v : Int64} (hk : ∀ (e3 : Int64), k e3 = some v → gn_Go RX2 cX2_digestFrom 7 0 0 (some .long) none 75 [none, none, none, some (.long e3), none, none, none] [] m (some (.long v)) m) : ∀ (f : Nat) (v3 : Int64) (v5 : Int32), L_X2_digestFrom_t_5 n m k f v3 v5 = some v → gn_Go RX2 cX2_digestFrom 7 0 0 (some .long) none 5 [some (.ref 4), none, none, some (.long v3), none, some (.int v5), none] [] m (some (.long v)) m := by
  intro f
  induction f with
  | zero =>
    intro v3 v5 h
    cases h
  | succ f ih =>
    intro v3 v5 h
    rw [L_X2_digestFrom_t_5] at h
    refine gr_iload dX2_digestFrom_5 rfl ?_
    refine gr_aload_n dX2_digestFrom_7 rfl rfl ?_
    refine gr_getR q_4_1 fl_X2_14 dX2_digestFrom_8 ?_
    refine gr_alen (v := (4 : Int32)) s_6 (by decide) (by decide) dX2_digestFrom_11 ?_
    refine gr_icmp_ge (tgt := 75) dX2_digestFrom_12 (by decide) h (fun _ h => ?_) (fun _ h => ?_)
    · refine gr_ldc2 kl_X2_28 dX2_digestFrom_15 ?_
      refine gr_lload_n dX2_digestFrom_18 rfl rfl ?_
      refine gr_lmul dX2_digestFrom_19 ?_
      refine gr_aload_n dX2_digestFrom_20 rfl rfl ?_
      refine gr_getR q_4_1 fl_X2_14 dX2_digestFrom_21 ?_
      refine gr_iload dX2_digestFrom_24 rfl ?_
      refine gq_iaload s_6 dX2_digestFrom_26 h (fun x1 h => ?_)
      refine gr_i2l dX2_digestFrom_27 ?_
      refine gr_ladd dX2_digestFrom_28 ?_
      refine gr_lstore_n (lv' := [some (.ref 4), none, none, some (.long (((31 : Int64) * v3) + x1.toInt64)), none, some (.int v5), none]) dX2_digestFrom_29 rfl (by decide) rfl ?_
      refine gr_iconst dX2_digestFrom_30 gk_i_0 ?_
      refine gr_istore (lv' := [some (.ref 4), none, none, some (.long (((31 : Int64) * v3) + x1.toInt64)), none, some (.int v5), some (.int (0 : Int32))]) dX2_digestFrom_31 (by decide) rfl ?_
      refine l_X2_digestFrom_t_33 (fun e5 h => ?_) _ _ _ h
      refine gr_iinc (lv' := [some (.ref 4), none, none, some (.long e5), none, some (.int (v5 + (1 : Int32))), none]) dX2_digestFrom_69 rfl gk_i_1 (by decide) rfl ?_
      refine gr_goto (tgt := 5) dX2_digestFrom_72 (by decide) ?_
      exact ih _ _ h
    · refine gn_wkn [false, false, false, true, false, false, false] rfl ?_
      exact hk _ h
def f_X2_digestFrom_t (n : Nat) (m : gn_M) (p0 : Int64) : Option (Int64) := L_X2_digestFrom_t_5 n m (fun (e6 : Int64) => some e6) n p0 (0 : Int32)
set_option maxRecDepth 100000 in
set_option maxHeartbeats 4000000 in
theorem c_X2_digestFrom_t {n : Nat} {m : gn_M} {p0 : Int64} {v : Int64} (h : f_X2_digestFrom_t n m p0 = some v) : gn_Cl yX2_digestFrom cX2_digestFrom 7 (some .long) 0 0 [.ref 4, .long p0] m (some (.long v)) m := by
  rw [f_X2_digestFrom_t] at h
  refine gn_met (lv := [some (.ref 4), some (.long p0), none, none, none, none, none]) pl_X2 rfl rfl (Nat.le_of_ble_eq_true rfl) ?_
  refine gr_lload_n dX2_digestFrom_0 rfl rfl ?_
  refine gr_lstore_n (lv' := [some (.ref 4), some (.long p0), none, some (.long p0), none, none, none]) dX2_digestFrom_1 rfl (by decide) rfl ?_
  refine gr_iconst dX2_digestFrom_2 gk_i_0 ?_
  refine gr_istore (lv' := [some (.ref 4), some (.long p0), none, some (.long p0), none, some (.int (0 : Int32)), none]) dX2_digestFrom_3 (by decide) rfl ?_
  refine gn_wkn [true, false, false, true, false, true, false] rfl ?_
  refine l_X2_digestFrom_t_5 (fun e6 h => ?_) _ _ _ h
  refine gr_lload_n dX2_digestFrom_75 rfl rfl ?_
  exact gq_retL dX2_digestFrom_76 trivial h
def L_X3_digest_6 (n : Nat) (m : gn_M) (k : Int64 → Option (Int64)) : Nat → Int64 → Int32 → Option (Int64)
  | 0, _, _ => none
  | f + 1, v1, v3 => (if v3 < (12 : Int32) then (f_X3_countOf n m v3).bind (fun x1 => L_X3_digest_6 n m k f (((31 : Int64) * v1) + x1.toInt64) (v3 + (1 : Int32))) else k v1)
set_option maxRecDepth 100000 in
set_option maxHeartbeats 4000000 in
theorem l_X3_digest_6 {n : Nat} {m : gn_M} {k : Int64 → Option (Int64)} {v : Int64} (hk : ∀ (e1 : Int64), k e1 = some v → gn_Go RX3 cX3_digest 5 5 106 (some .long) none 31 [some (.ref 0), some (.long e1), none, none, none] [] m (some (.long v)) m) : ∀ (f : Nat) (v1 : Int64) (v3 : Int32), L_X3_digest_6 n m k f v1 v3 = some v → gn_Go RX3 cX3_digest 5 5 106 (some .long) none 6 [some (.ref 0), some (.long v1), none, some (.int v3), none] [] m (some (.long v)) m := by
  intro f
  induction f with
  | zero =>
    intro v1 v3 h
    cases h
  | succ f ih =>
    intro v1 v3 h
    rw [L_X3_digest_6] at h
    refine gr_iload_n dX3_digest_6 rfl rfl ?_
    refine gr_bipush dX3_digest_7 gk_b_12 ?_
    refine gr_icmp_ge (tgt := 31) dX3_digest_9 (by decide) h (fun _ h => ?_) (fun _ h => ?_)
    · refine gr_ldc2 kl_X3_289 dX3_digest_12 ?_
      refine gr_lload_n dX3_digest_15 rfl rfl ?_
      refine gr_lmul dX3_digest_16 ?_
      refine gr_aload_n dX3_digest_17 rfl rfl ?_
      refine gr_iload_n dX3_digest_18 rfl rfl ?_
      obtain ⟨x1, hx1, h⟩ := gn_bd h
      refine gc_VI (c_X3_countOf hx1) my_X3_countOf mv_X3_countOf ob_0 ml_X3_284 rfl rfl ⟨Nat.le_of_ble_eq_true rfl, Nat.le_of_ble_eq_true rfl⟩ (Nat.le_of_ble_eq_true rfl) dX3_digest_19 (fun fx1 => ?_)
      refine gr_i2l dX3_digest_22 ?_
      refine gr_ladd dX3_digest_23 ?_
      refine gr_lstore_n (lv' := [some (.ref 0), some (.long (((31 : Int64) * v1) + x1.toInt64)), none, some (.int v3), none]) dX3_digest_24 rfl (by decide) rfl ?_
      refine gr_iinc (lv' := [some (.ref 0), some (.long (((31 : Int64) * v1) + x1.toInt64)), none, some (.int (v3 + (1 : Int32))), none]) dX3_digest_25 rfl gk_i_1 (by decide) rfl ?_
      refine gr_goto (tgt := 6) dX3_digest_28 (by decide) ?_
      exact ih _ _ h
    · refine gn_wkn [true, true, false, false, false] rfl ?_
      exact hk _ h
def L_X3_digest_47 (n : Nat) (m : gn_M) (a3 : Int32) (k : Int64 → Option (Int64)) : Nat → Int64 → Int32 → Option (Int64)
  | 0, _, _ => none
  | f + 1, v1, v4 => (if v4 < (7 : Int32) then (f_X3_traitOf m a3 v4).bind (fun x3 => L_X3_digest_47 n m a3 k f (((31 : Int64) * v1) + x3.toInt64) (v4 + (1 : Int32))) else k v1)
set_option maxRecDepth 100000 in
set_option maxHeartbeats 4000000 in
theorem l_X3_digest_47 {n : Nat} {m : gn_M} {a3 : Int32} {k : Int64 → Option (Int64)} {v : Int64} (hk : ∀ (e1 : Int64), k e1 = some v → gn_Go RX3 cX3_digest 5 5 106 (some .long) none 75 [some (.ref 0), some (.long e1), none, some (.int a3), none] [] m (some (.long v)) m) : ∀ (f : Nat) (v1 : Int64) (v4 : Int32), L_X3_digest_47 n m a3 k f v1 v4 = some v → gn_Go RX3 cX3_digest 5 5 106 (some .long) none 47 [some (.ref 0), some (.long v1), none, some (.int a3), some (.int v4)] [] m (some (.long v)) m := by
  intro f
  induction f with
  | zero =>
    intro v1 v4 h
    cases h
  | succ f ih =>
    intro v1 v4 h
    rw [L_X3_digest_47] at h
    refine gr_iload dX3_digest_47 rfl ?_
    refine gr_bipush dX3_digest_49 gk_b_7 ?_
    refine gr_icmp_ge (tgt := 75) dX3_digest_51 (by decide) h (fun _ h => ?_) (fun _ h => ?_)
    · refine gr_ldc2 kl_X3_289 dX3_digest_54 ?_
      refine gr_lload_n dX3_digest_57 rfl rfl ?_
      refine gr_lmul dX3_digest_58 ?_
      refine gr_aload_n dX3_digest_59 rfl rfl ?_
      refine gr_iload_n dX3_digest_60 rfl rfl ?_
      refine gr_iload dX3_digest_61 rfl ?_
      obtain ⟨x3, hx3, h⟩ := gn_bd h
      refine gc_VI (c_X3_traitOf hx3) my_X3_traitOf mv_X3_traitOf ob_0 ml_X3_130 rfl rfl ⟨Nat.le_of_ble_eq_true rfl, Nat.le_of_ble_eq_true rfl⟩ (Nat.le_of_ble_eq_true rfl) dX3_digest_63 (fun fx3 => ?_)
      refine gr_i2l dX3_digest_66 ?_
      refine gr_ladd dX3_digest_67 ?_
      refine gr_lstore_n (lv' := [some (.ref 0), some (.long (((31 : Int64) * v1) + x3.toInt64)), none, some (.int a3), some (.int v4)]) dX3_digest_68 rfl (by decide) rfl ?_
      refine gr_iinc (lv' := [some (.ref 0), some (.long (((31 : Int64) * v1) + x3.toInt64)), none, some (.int a3), some (.int (v4 + (1 : Int32)))]) dX3_digest_69 rfl gk_i_1 (by decide) rfl ?_
      refine gr_goto (tgt := 47) dX3_digest_72 (by decide) ?_
      exact ih _ _ h
    · refine gn_wkn [true, true, false, true, false] rfl ?_
      exact hk _ h
def L_X3_digest_33 (n : Nat) (m : gn_M) (k : Int64 → Option (Int64)) : Nat → Int64 → Int32 → Option (Int64)
  | 0, _, _ => none
  | f + 1, v1, v3 => (if v3 < (m.1 7 6) then L_X3_digest_47 n m v3 (fun (e4 : Int64) => L_X3_digest_33 n m k f e4 (v3 + (1 : Int32))) n v1 (0 : Int32) else k v1)
set_option maxRecDepth 100000 in
set_option maxHeartbeats 4000000 in
theorem l_X3_digest_33 {n : Nat} {m : gn_M} {k : Int64 → Option (Int64)} {v : Int64} (hk : ∀ (e1 : Int64), k e1 = some v → gn_Go RX3 cX3_digest 5 5 106 (some .long) none 81 [some (.ref 0), some (.long e1), none, none, none] [] m (some (.long v)) m) : ∀ (f : Nat) (v1 : Int64) (v3 : Int32), L_X3_digest_33 n m k f v1 v3 = some v → gn_Go RX3 cX3_digest 5 5 106 (some .long) none 33 [some (.ref 0), some (.long v1), none, some (.int v3), none] [] m (some (.long v)) m := by
  intro f
  induction f with
  | zero =>
    intro v1 v3 h
    cases h
  | succ f ih =>
    intro v1 v3 h
    rw [L_X3_digest_33] at h
    refine gr_iload_n dX3_digest_33 rfl rfl ?_
    refine gr_aload_n dX3_digest_34 rfl rfl ?_
    refine gr_getR q_0_2 fl_X3_24 dX3_digest_35 ?_
    refine gr_getIN q_7_6 fl_X3_126 dX3_digest_38 ?_
    refine gr_icmp_ge (tgt := 81) dX3_digest_41 (by decide) h (fun _ h => ?_) (fun _ h => ?_)
    · refine gr_iconst dX3_digest_44 gk_i_0 ?_
      refine gr_istore (lv' := [some (.ref 0), some (.long v1), none, some (.int v3), some (.int (0 : Int32))]) dX3_digest_45 (by decide) rfl ?_
      refine l_X3_digest_47 (fun e4 h => ?_) _ _ _ h
      refine gr_iinc (lv' := [some (.ref 0), some (.long e4), none, some (.int (v3 + (1 : Int32))), none]) dX3_digest_75 rfl gk_i_1 (by decide) rfl ?_
      refine gr_goto (tgt := 33) dX3_digest_78 (by decide) ?_
      exact ih _ _ h
    · refine gn_wkn [true, true, false, false, false] rfl ?_
      exact hk _ h
def L_X3_digest_83 (n : Nat) (m : gn_M) (k : Int64 → Option (Int64)) : Nat → Int64 → Int32 → Option (Int64)
  | 0, _, _ => none
  | f + 1, v1, v3 => (if v3 < (3 : Int32) then gn_rd m 23 3 v3 (fun x6 => L_X3_digest_83 n m k f (((31 : Int64) * v1) + x6.toInt64) (v3 + (1 : Int32))) else k v1)
set_option maxRecDepth 100000 in
set_option maxHeartbeats 4000000 in
theorem l_X3_digest_83 {n : Nat} {m : gn_M} {k : Int64 → Option (Int64)} {v : Int64} (hk : ∀ (e1 : Int64), k e1 = some v → gn_Go RX3 cX3_digest 5 5 106 (some .long) none 108 [some (.ref 0), some (.long e1), none, none, none] [] m (some (.long v)) m) : ∀ (f : Nat) (v1 : Int64) (v3 : Int32), L_X3_digest_83 n m k f v1 v3 = some v → gn_Go RX3 cX3_digest 5 5 106 (some .long) none 83 [some (.ref 0), some (.long v1), none, some (.int v3), none] [] m (some (.long v)) m := by
  intro f
  induction f with
  | zero =>
    intro v1 v3 h
    cases h
  | succ f ih =>
    intro v1 v3 h
    rw [L_X3_digest_83] at h
    refine gr_iload_n dX3_digest_83 rfl rfl ?_
    refine gr_iconst dX3_digest_84 gk_i_3 ?_
    refine gr_icmp_ge (tgt := 108) dX3_digest_85 (by decide) h (fun _ h => ?_) (fun _ h => ?_)
    · refine gr_ldc2 kl_X3_289 dX3_digest_88 ?_
      refine gr_lload_n dX3_digest_91 rfl rfl ?_
      refine gr_lmul dX3_digest_92 ?_
      refine gr_aload_n dX3_digest_93 rfl rfl ?_
      refine gr_getR q_0_5 fl_X3_40 dX3_digest_94 ?_
      refine gr_iload_n dX3_digest_97 rfl rfl ?_
      refine gq_iaload s_23 dX3_digest_98 h (fun x6 h => ?_)
      refine gr_i2l dX3_digest_99 ?_
      refine gr_ladd dX3_digest_100 ?_
      refine gr_lstore_n (lv' := [some (.ref 0), some (.long (((31 : Int64) * v1) + x6.toInt64)), none, some (.int v3), none]) dX3_digest_101 rfl (by decide) rfl ?_
      refine gr_iinc (lv' := [some (.ref 0), some (.long (((31 : Int64) * v1) + x6.toInt64)), none, some (.int (v3 + (1 : Int32))), none]) dX3_digest_102 rfl gk_i_1 (by decide) rfl ?_
      refine gr_goto (tgt := 83) dX3_digest_105 (by decide) ?_
      exact ih _ _ h
    · refine gn_wkn [true, true, false, false, false] rfl ?_
      exact hk _ h
def f_X3_digest (n : Nat) (m : gn_M) : Option (Int64) := L_X3_digest_6 n m (fun (e2 : Int64) => L_X3_digest_33 n m (fun (e5 : Int64) => L_X3_digest_83 n m (fun (e7 : Int64) => (f_X2_digestFrom_r n m e7).bind (fun x8 => (f_X2_digestFrom_t n m x8).bind (fun x9 => some x9))) n e5 (0 : Int32)) n e2 (0 : Int32)) n (17 : Int64) (0 : Int32)
set_option maxRecDepth 100000 in
set_option maxHeartbeats 4000000 in
theorem c_X3_digest {n : Nat} {m : gn_M} {v : Int64} (h : f_X3_digest n m = some v) : gn_Cl yX3_digest cX3_digest 5 (some .long) 5 106 [.ref 0] m (some (.long v)) m := by
  rw [f_X3_digest] at h
  refine gn_met (lv := [some (.ref 0), none, none, none, none]) pl_X3 rfl rfl (Nat.le_of_ble_eq_true rfl) ?_
  refine gr_ldc2 kl_X3_287 dX3_digest_0 ?_
  refine gr_lstore_n (lv' := [some (.ref 0), some (.long (17 : Int64)), none, none, none]) dX3_digest_3 rfl (by decide) rfl ?_
  refine gr_iconst dX3_digest_4 gk_i_0 ?_
  refine gr_istore_n (lv' := [some (.ref 0), some (.long (17 : Int64)), none, some (.int (0 : Int32)), none]) dX3_digest_5 rfl (by decide) rfl ?_
  refine l_X3_digest_6 (fun e2 h => ?_) _ _ _ h
  refine gr_iconst dX3_digest_31 gk_i_0 ?_
  refine gr_istore_n (lv' := [some (.ref 0), some (.long e2), none, some (.int (0 : Int32)), none]) dX3_digest_32 rfl (by decide) rfl ?_
  refine l_X3_digest_33 (fun e5 h => ?_) _ _ _ h
  refine gr_iconst dX3_digest_81 gk_i_0 ?_
  refine gr_istore_n (lv' := [some (.ref 0), some (.long e5), none, some (.int (0 : Int32)), none]) dX3_digest_82 rfl (by decide) rfl ?_
  refine l_X3_digest_83 (fun e7 h => ?_) _ _ _ h
  refine gr_aload_n dX3_digest_108 rfl rfl ?_
  refine gr_getR q_0_1 fl_X3_18 dX3_digest_109 ?_
  refine gr_aload_n dX3_digest_112 rfl rfl ?_
  refine gr_getR q_0_0 fl_X3_14 dX3_digest_113 ?_
  refine gr_lload_n dX3_digest_116 rfl rfl ?_
  obtain ⟨x8, hx8, h⟩ := gn_bd h
  refine gc_VNL (c_X2_digestFrom_r hx8) my_X2_digestFrom mv_X2_digestFrom ob_1 ml_X3_291 rfl rfl ⟨Nat.le_of_ble_eq_true rfl, Nat.le_of_ble_eq_true rfl⟩ (Nat.le_of_ble_eq_true rfl) dX3_digest_117 (fun fx8 => ?_)
  obtain ⟨x9, hx9, h⟩ := gn_bd h
  refine gc_VNL (c_X2_digestFrom_t hx9) my_X2_digestFrom mv_X2_digestFrom ob_4 ml_X3_291 rfl rfl ⟨Nat.le_of_ble_eq_true rfl, Nat.le_of_ble_eq_true rfl⟩ (Nat.le_of_ble_eq_true rfl) dX3_digest_120 (fun fx9 => ?_)
  exact gq_retL dX3_digest_123 trivial h
