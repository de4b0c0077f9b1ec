def f_X4_isSet (m : gn_M) (p0 : Int32) : Option (Int32) := (f_X4_in p0 (0 : Int32) (((1 : Int32) <<< ((m.1 38 10) &&& 31)) - (1 : Int32))).bind (fun x1 => some x1)
set_option maxRecDepth 100000 in
set_option maxHeartbeats 4000000 in
theorem c_X4_isSet {m : gn_M} {p0 : Int32} {v : Int32} (h : f_X4_isSet m p0 = some v) : gn_Cl yX4_isSet cX4_isSet 2 (some .boolean) 1 22 [.ref 38, .int p0] m (some (.int v)) m := by
  rw [f_X4_isSet] at h
  refine gn_met (lv := [some (.ref 38), some (.int p0)]) pl_X4 rfl rfl (Nat.le_of_ble_eq_true rfl) ?_
  refine gr_iload_n dX4_isSet_0 rfl rfl ?_
  refine gr_iconst dX4_isSet_1 gk_i_0 ?_
  refine gr_iconst dX4_isSet_2 gk_i_1 ?_
  refine gr_aload_n dX4_isSet_3 rfl rfl ?_
  refine gr_getI q_38_10 fl_X4_104 dX4_isSet_4 ?_
  refine gr_ishl dX4_isSet_7 ?_
  refine gr_iconst dX4_isSet_8 gk_i_1 ?_
  refine gr_isub dX4_isSet_9 ?_
  obtain ⟨x1, hx1, h⟩ := gn_bd h
  refine gc_SI (c_X4_in hx1) my_X4_in ms_X4_in ml_X4_77 rfl rfl ⟨Nat.le_of_ble_eq_true rfl, Nat.le_of_ble_eq_true rfl⟩ (Nat.le_of_ble_eq_true rfl) dX4_isSet_10 (fun fx1 => ?_)
  exact gq_retI dX4_isSet_13 fx1 h
def f_X4_tells (m : gn_M) (p0 : Int32) (p1 : Int32) : Option (Int32) := (f_X4_isGoer m p0).bind (fun x1 => (if x1 = 0 then some (-1 : Int32) else (f_X4_isSet m p1).bind (fun x2 => (if x2 = 0 then some (-1 : Int32) else gn_rd m 45 14 p0 (fun x3 => (f_X4_tellsBy p0 x3 p1).bind (fun x4 => some x4))))))
set_option maxRecDepth 100000 in
set_option maxHeartbeats 4000000 in
theorem c_X4_tells {m : gn_M} {p0 : Int32} {p1 : Int32} {v : Int32} (h : f_X4_tells m p0 p1 = some v) : gn_Cl yX4_tells cX4_tells 3 (some .int) 2 43 [.ref 38, .int p0, .int p1] m (some (.int v)) m := by
  rw [f_X4_tells] at h
  refine gn_met (lv := [some (.ref 38), some (.int p0), some (.int p1)]) pl_X4 rfl rfl (Nat.le_of_ble_eq_true rfl) ?_
  refine gr_aload_n dX4_tells_0 rfl rfl ?_
  refine gr_iload_n dX4_tells_1 rfl rfl ?_
  obtain ⟨x1, hx1, h⟩ := gn_bd h
  refine gc_VI (c_X4_isGoer hx1) my_X4_isGoer mv_X4_isGoer ob_38 ml_X4_143 rfl rfl ⟨Nat.le_of_ble_eq_true rfl, Nat.le_of_ble_eq_true rfl⟩ (Nat.le_of_ble_eq_true rfl) dX4_tells_2 (fun fx1 => ?_)
  refine gr_if_eq (tgt := 30) dX4_tells_5 (by decide) h (fun _ h => ?_) (fun _ h => ?_)
  · refine gr_iconst dX4_tells_30 gk_i_m1 ?_
    exact gq_retI dX4_tells_31 rfl h
  · refine gr_aload_n dX4_tells_8 rfl rfl ?_
    refine gr_iload_n dX4_tells_9 rfl rfl ?_
    obtain ⟨x2, hx2, h⟩ := gn_bd h
    refine gc_VI (c_X4_isSet hx2) my_X4_isSet mv_X4_isSet ob_38 ml_X4_156 rfl rfl ⟨Nat.le_of_ble_eq_true rfl, Nat.le_of_ble_eq_true rfl⟩ (Nat.le_of_ble_eq_true rfl) dX4_tells_10 (fun fx2 => ?_)
    refine gr_if_eq (tgt := 30) dX4_tells_13 (by decide) h (fun _ h => ?_) (fun _ h => ?_)
    · refine gr_iconst dX4_tells_30 gk_i_m1 ?_
      exact gq_retI dX4_tells_31 rfl h
    · refine gr_iload_n dX4_tells_16 rfl rfl ?_
      refine gr_aload_n dX4_tells_17 rfl rfl ?_
      refine gr_getR q_38_11 fl_X4_33 dX4_tells_18 ?_
      refine gr_iload_n dX4_tells_21 rfl rfl ?_
      refine gq_iaload s_45 dX4_tells_22 h (fun x3 h => ?_)
      refine gr_iload_n dX4_tells_23 rfl rfl ?_
      obtain ⟨x4, hx4, h⟩ := gn_bd h
      refine gc_SI (c_X4_tellsBy hx4) my_X4_tellsBy ms_X4_tellsBy ml_X4_116 rfl rfl ⟨Nat.le_of_ble_eq_true rfl, Nat.le_of_ble_eq_true rfl⟩ (Nat.le_of_ble_eq_true rfl) dX4_tells_24 (fun fx4 => ?_)
      refine gr_goto (tgt := 31) dX4_tells_27 (by decide) ?_
      exact gq_retI dX4_tells_31 rfl h
def L_X4_begin_2 (n : Nat) (k : gn_M → Option (gn_M)) : Nat → Int32 → gn_M → Option (gn_M)
  | 0, _, _ => none
  | f + 1, v1, m => (if v1 < (10 : Int32) then gn_rd m 48 410 (((10 : Int32) * (m.1 38 16)) + v1) (fun x1 => gn_wr m 48 410 (((10 : Int32) * ((m.1 38 16) + (1 : Int32))) + v1) x1 (fun m2 => L_X4_begin_2 n k f (v1 + (1 : Int32)) m2)) else k m)
set_option maxRecDepth 100000 in
set_option maxHeartbeats 4000000 in
theorem l_X4_begin_2 {n : Nat} {k : gn_M → Option (gn_M)} {v : gn_M} (hk : ∀ (m1 : gn_M), k m1 = some v → gn_Go RX4 cX4_begin 2 0 0 none none 44 [some (.ref 38), none] [] m1 none v) : ∀ (f : Nat) (v1 : Int32) (m : gn_M), L_X4_begin_2 n k f v1 m = some v → gn_Go RX4 cX4_begin 2 0 0 none none 2 [some (.ref 38), some (.int v1)] [] m none v := by
  intro f
  induction f with
  | zero =>
    intro v1 m h
    cases h
  | succ f ih =>
    intro v1 m h
    rw [L_X4_begin_2] at h
    refine gr_iload_n dX4_begin_2 rfl rfl ?_
    refine gr_bipush dX4_begin_3 gk_b_10 ?_
    refine gr_icmp_ge (tgt := 44) dX4_begin_5 (by decide) h (fun _ h => ?_) (fun _ h => ?_)
    · refine gr_aload_n dX4_begin_8 rfl rfl ?_
      refine gr_getR q_38_15 fl_X4_42 dX4_begin_9 ?_
      refine gr_bipush dX4_begin_12 gk_b_10 ?_
      refine gr_aload_n dX4_begin_14 rfl rfl ?_
      refine gr_getI q_38_16 fl_X4_107 dX4_begin_15 ?_
      refine gr_iconst dX4_begin_18 gk_i_1 ?_
      refine gr_iadd dX4_begin_19 ?_
      refine gr_imul dX4_begin_20 ?_
      refine gr_iload_n dX4_begin_21 rfl rfl ?_
      refine gr_iadd dX4_begin_22 ?_
      refine gr_aload_n dX4_begin_23 rfl rfl ?_
      refine gr_getR q_38_15 fl_X4_42 dX4_begin_24 ?_
      refine gr_bipush dX4_begin_27 gk_b_10 ?_
      refine gr_aload_n dX4_begin_29 rfl rfl ?_
      refine gr_getI q_38_16 fl_X4_107 dX4_begin_30 ?_
      refine gr_imul dX4_begin_33 ?_
      refine gr_iload_n dX4_begin_34 rfl rfl ?_
      refine gr_iadd dX4_begin_35 ?_
      refine gq_iaload s_48 dX4_begin_36 h (fun x1 h => ?_)
      refine gq_iastore s_48 dX4_begin_37 h (fun m2 h => ?_)
      refine gr_iinc (lv' := [some (.ref 38), some (.int (v1 + (1 : Int32)))]) dX4_begin_38 rfl gk_i_1 (by decide) rfl ?_
      refine gr_goto (tgt := 2) dX4_begin_41 (by decide) ?_
      exact ih _ _ h
    · refine gn_wkn [true, false] rfl ?_
      exact hk _ h
def f_X4_begin (n : Nat) (m : gn_M) : Option (gn_M) := L_X4_begin_2 n (fun (m3 : gn_M) => gn_pf m3 38 16 ((m3.1 38 16) + (1 : Int32)) (fun m4 => some m4)) n (0 : Int32) m
set_option maxRecDepth 100000 in
set_option maxHeartbeats 4000000 in
theorem c_X4_begin {n : Nat} {m : gn_M} {v : gn_M} (h : f_X4_begin n m = some v) : gn_Cl yX4_begin cX4_begin 2 none 0 0 [.ref 38] m none v := by
  rw [f_X4_begin] at h
  refine gn_met (lv := [some (.ref 38), none]) pl_X4 rfl rfl (Nat.le_of_ble_eq_true rfl) ?_
  refine gr_iconst dX4_begin_0 gk_i_0 ?_
  refine gr_istore_n (lv' := [some (.ref 38), some (.int (0 : Int32))]) dX4_begin_1 rfl (by decide) rfl ?_
  refine l_X4_begin_2 (fun m3 h => ?_) _ _ _ h
  refine gr_aload_n dX4_begin_44 rfl rfl ?_
  refine gr_dup dX4_begin_45 rfl ?_
  refine gr_getI q_38_16 fl_X4_107 dX4_begin_46 ?_
  refine gr_iconst dX4_begin_49 gk_i_1 ?_
  refine gr_iadd dX4_begin_50 ?_
  refine gq_putI q_38_16 rfl rfl fl_X4_107 dX4_begin_51 h (fun m4 h => ?_)
  exact gq_retVM dX4_begin_54 trivial h
def f_X4_tell (n : Nat) (m : gn_M) (p0 : Int32) (p1 : Int32) : Option (Int32 × gn_M) := gn_rd m 48 410 ((((10 : Int32) * (m.1 38 16)) + (0 : Int32)) + p0) (fun x1 => (f_X4_bitsOf n x1).bind (fun x2 => gn_rd m 48 410 ((((10 : Int32) * (m.1 38 16)) + (0 : Int32)) + p0) (fun x3 => gn_wr m 48 410 ((((10 : Int32) * (m.1 38 16)) + (0 : Int32)) + p0) (x3 ||| (p1 &&& (((1 : Int32) <<< (p0 &&& 31)) ^^^ (-1 : Int32)))) (fun m4 => gn_rd m4 48 410 ((((10 : Int32) * (m.1 38 16)) + (0 : Int32)) + p0) (fun x5 => (f_X4_bitsOf n x5).bind (fun x6 => some ((x6 - x2), m4)))))))
set_option maxRecDepth 100000 in
set_option maxHeartbeats 4000000 in
theorem c_X4_tell {n : Nat} {m : gn_M} {p0 : Int32} {p1 : Int32} {v : Int32 × gn_M} (h : f_X4_tell n m p0 p1 = some v) : gn_Cl yX4_tell cX4_tell 5 (some .int) 1 22 [.ref 38, .int p0, .int p1] m (some (.int v.1)) v.2 := by
  rw [f_X4_tell] at h
  refine gn_met (lv := [some (.ref 38), some (.int p0), some (.int p1), none, none]) pl_X4 rfl rfl (Nat.le_of_ble_eq_true rfl) ?_
  refine gr_bipush dX4_tell_0 gk_b_10 ?_
  refine gr_aload_n dX4_tell_2 rfl rfl ?_
  refine gr_getI q_38_16 fl_X4_107 dX4_tell_3 ?_
  refine gr_imul dX4_tell_6 ?_
  refine gr_iconst dX4_tell_7 gk_i_0 ?_
  refine gr_iadd dX4_tell_8 ?_
  refine gr_iload_n dX4_tell_9 rfl rfl ?_
  refine gr_iadd dX4_tell_10 ?_
  refine gr_istore_n (lv' := [some (.ref 38), some (.int p0), some (.int p1), some (.int ((((10 : Int32) * (m.1 38 16)) + (0 : Int32)) + p0)), none]) dX4_tell_11 rfl (by decide) rfl ?_
  refine gr_aload_n dX4_tell_12 rfl rfl ?_
  refine gr_getR q_38_15 fl_X4_42 dX4_tell_13 ?_
  refine gr_iload_n dX4_tell_16 rfl rfl ?_
  refine gq_iaload s_48 dX4_tell_17 h (fun x1 h => ?_)
  obtain ⟨x2, hx2, h⟩ := gn_bd h
  refine gc_SI (c_X4_bitsOf hx2) my_X4_bitsOf ms_X4_bitsOf ml_X4_153 rfl rfl ⟨Nat.le_of_ble_eq_true rfl, Nat.le_of_ble_eq_true rfl⟩ (Nat.le_of_ble_eq_true rfl) dX4_tell_18 (fun fx2 => ?_)
  refine gr_istore (lv' := [some (.ref 38), some (.int p0), some (.int p1), some (.int ((((10 : Int32) * (m.1 38 16)) + (0 : Int32)) + p0)), some (.int x2)]) dX4_tell_21 (by decide) rfl ?_
  refine gr_aload_n dX4_tell_23 rfl rfl ?_
  refine gr_getR q_38_15 fl_X4_42 dX4_tell_24 ?_
  refine gr_iload_n dX4_tell_27 rfl rfl ?_
  refine gr_dup2 dX4_tell_28 rfl rfl ?_
  refine gq_iaload s_48 dX4_tell_29 h (fun x3 h => ?_)
  refine gr_iload_n dX4_tell_30 rfl rfl ?_
  refine gr_iconst dX4_tell_31 gk_i_1 ?_
  refine gr_iload_n dX4_tell_32 rfl rfl ?_
  refine gr_ishl dX4_tell_33 ?_
  refine gr_iconst dX4_tell_34 gk_i_m1 ?_
  refine gr_ixor dX4_tell_35 ?_
  refine gr_iand dX4_tell_36 ?_
  refine gr_ior dX4_tell_37 ?_
  refine gq_iastore s_48 dX4_tell_38 h (fun m4 h => ?_)
  refine gr_aload_n dX4_tell_39 rfl rfl ?_
  refine gr_getR q_38_15 fl_X4_42 dX4_tell_40 ?_
  refine gr_iload_n dX4_tell_43 rfl rfl ?_
  refine gq_iaload s_48 dX4_tell_44 h (fun x5 h => ?_)
  obtain ⟨x6, hx6, h⟩ := gn_bd h
  refine gc_SI (c_X4_bitsOf hx6) my_X4_bitsOf ms_X4_bitsOf ml_X4_153 rfl rfl ⟨Nat.le_of_ble_eq_true rfl, Nat.le_of_ble_eq_true rfl⟩ (Nat.le_of_ble_eq_true rfl) dX4_tell_45 (fun fx6 => ?_)
  refine gr_iload dX4_tell_48 rfl ?_
  refine gr_isub dX4_tell_50 ?_
  exact gq_retIM dX4_tell_51 rfl h
def f_X4_meetNow (n : Nat) (m : gn_M) (p0 : Int32) (p1 : Int32) : Option (Int32 × gn_M) := (f_X4_tellsOf m p0).bind (fun x1 => (f_X4_tellsOf m p1).bind (fun x2 => (f_X4_tell n m p0 x2).bind (fun x3 => (f_X4_tell n x3.2 p1 x1).bind (fun x4 => some ((x3.1 + x4.1), x4.2)))))
set_option maxRecDepth 100000 in
set_option maxHeartbeats 4000000 in
theorem c_X4_meetNow {n : Nat} {m : gn_M} {p0 : Int32} {p1 : Int32} {v : Int32 × gn_M} (h : f_X4_meetNow n m p0 p1 = some v) : gn_Cl yX4_meetNow cX4_meetNow 5 (some .int) 3 63 [.ref 38, .int p0, .int p1] m (some (.int v.1)) v.2 := by
  rw [f_X4_meetNow] at h
  refine gn_met (lv := [some (.ref 38), some (.int p0), some (.int p1), none, none]) pl_X4 rfl rfl (Nat.le_of_ble_eq_true rfl) ?_
  refine gr_aload_n dX4_meetNow_0 rfl rfl ?_
  refine gr_iload_n dX4_meetNow_1 rfl rfl ?_
  obtain ⟨x1, hx1, h⟩ := gn_bd h
  refine gc_VI (c_X4_tellsOf hx1) my_X4_tellsOf mv_X4_tellsOf ob_38 ml_X4_140 rfl rfl ⟨Nat.le_of_ble_eq_true rfl, Nat.le_of_ble_eq_true rfl⟩ (Nat.le_of_ble_eq_true rfl) dX4_meetNow_2 (fun fx1 => ?_)
  refine gr_istore_n (lv' := [some (.ref 38), some (.int p0), some (.int p1), some (.int x1), none]) dX4_meetNow_5 rfl (by decide) rfl ?_
  refine gr_aload_n dX4_meetNow_6 rfl rfl ?_
  refine gr_iload_n dX4_meetNow_7 rfl rfl ?_
  obtain ⟨x2, hx2, h⟩ := gn_bd h
  refine gc_VI (c_X4_tellsOf hx2) my_X4_tellsOf mv_X4_tellsOf ob_38 ml_X4_140 rfl rfl ⟨Nat.le_of_ble_eq_true rfl, Nat.le_of_ble_eq_true rfl⟩ (Nat.le_of_ble_eq_true rfl) dX4_meetNow_8 (fun fx2 => ?_)
  refine gr_istore (lv' := [some (.ref 38), some (.int p0), some (.int p1), some (.int x1), some (.int x2)]) dX4_meetNow_11 (by decide) rfl ?_
  refine gr_aload_n dX4_meetNow_13 rfl rfl ?_
  refine gr_iload_n dX4_meetNow_14 rfl rfl ?_
  refine gr_iload dX4_meetNow_15 rfl ?_
  obtain ⟨x3, hx3, h⟩ := gn_bd h
  refine gc_VI (c_X4_tell hx3) my_X4_tell mv_X4_tell ob_38 ml_X4_159 rfl rfl ⟨Nat.le_of_ble_eq_true rfl, Nat.le_of_ble_eq_true rfl⟩ (Nat.le_of_ble_eq_true rfl) dX4_meetNow_17 (fun fx3 => ?_)
  refine gr_aload_n dX4_meetNow_20 rfl rfl ?_
  refine gr_iload_n dX4_meetNow_21 rfl rfl ?_
  refine gr_iload_n dX4_meetNow_22 rfl rfl ?_
  obtain ⟨x4, hx4, h⟩ := gn_bd h
  refine gc_VI (c_X4_tell hx4) my_X4_tell mv_X4_tell ob_38 ml_X4_159 rfl rfl ⟨Nat.le_of_ble_eq_true rfl, Nat.le_of_ble_eq_true rfl⟩ (Nat.le_of_ble_eq_true rfl) dX4_meetNow_23 (fun fx4 => ?_)
  refine gr_iadd dX4_meetNow_26 ?_
  exact gq_retIM dX4_meetNow_27 rfl h
def f_X4_meet (n : Nat) (m : gn_M) (p0 : Int32) (p1 : Int32) : Option (Int32 × gn_M) := (f_X4_isGoer m p0).bind (fun x1 => (if x1 = 0 then some ((-1 : Int32), m) else (f_X4_isGoer m p1).bind (fun x2 => (if x2 = 0 then some ((-1 : Int32), m) else (if p0 = p1 then some ((-1 : Int32), m) else (f_X4_isThrough m p0).bind (fun x3 => (if x3 = 0 then (f_X4_isThrough m p1).bind (fun x4 => (if x4 = 0 then (if (m.1 38 16) = (40 : Int32) then some ((-2 : Int32), m) else (f_X4_begin n m).bind (fun x5 => (f_X4_meetNow n x5 p0 p1).bind (fun x6 => some (x6.1, x6.2)))) else some ((-4 : Int32), m))) else some ((-4 : Int32), m))))))))
set_option maxRecDepth 100000 in
set_option maxHeartbeats 4000000 in
theorem c_X4_meet {n : Nat} {m : gn_M} {p0 : Int32} {p1 : Int32} {v : Int32 × gn_M} (h : f_X4_meet n m p0 p1 = some v) : gn_Cl yX4_meet cX4_meet 3 (some .int) 4 87 [.ref 38, .int p0, .int p1] m (some (.int v.1)) v.2 := by
  rw [f_X4_meet] at h
  refine gn_met (lv := [some (.ref 38), some (.int p0), some (.int p1)]) pl_X4 rfl rfl (Nat.le_of_ble_eq_true rfl) ?_
  refine gr_aload_n dX4_meet_0 rfl rfl ?_
  refine gr_iload_n dX4_meet_1 rfl rfl ?_
  obtain ⟨x1, hx1, h⟩ := gn_bd h
  refine gc_VI (c_X4_isGoer hx1) my_X4_isGoer mv_X4_isGoer ob_38 ml_X4_143 rfl rfl ⟨Nat.le_of_ble_eq_true rfl, Nat.le_of_ble_eq_true rfl⟩ (Nat.le_of_ble_eq_true rfl) dX4_meet_2 (fun fx1 => ?_)
  refine gr_if_eq (tgt := 21) dX4_meet_5 (by decide) h (fun _ h => ?_) (fun _ h => ?_)
  · refine gr_iconst dX4_meet_21 gk_i_m1 ?_
    exact gq_retIM dX4_meet_22 rfl h
  · refine gr_aload_n dX4_meet_8 rfl rfl ?_
    refine gr_iload_n dX4_meet_9 rfl rfl ?_
    obtain ⟨x2, hx2, h⟩ := gn_bd h
    refine gc_VI (c_X4_isGoer hx2) my_X4_isGoer mv_X4_isGoer ob_38 ml_X4_143 rfl rfl ⟨Nat.le_of_ble_eq_true rfl, Nat.le_of_ble_eq_true rfl⟩ (Nat.le_of_ble_eq_true rfl) dX4_meet_10 (fun fx2 => ?_)
    refine gr_if_eq (tgt := 21) dX4_meet_13 (by decide) h (fun _ h => ?_) (fun _ h => ?_)
    · refine gr_iconst dX4_meet_21 gk_i_m1 ?_
      exact gq_retIM dX4_meet_22 rfl h
    · refine gr_iload_n dX4_meet_16 rfl rfl ?_
      refine gr_iload_n dX4_meet_17 rfl rfl ?_
      refine gr_icmp_ne (tgt := 23) dX4_meet_18 (by decide) h (fun _ h => ?_) (fun _ h => ?_)
      · refine gr_iconst dX4_meet_21 gk_i_m1 ?_
        exact gq_retIM dX4_meet_22 rfl h
      · refine gr_aload_n dX4_meet_23 rfl rfl ?_
        refine gr_iload_n dX4_meet_24 rfl rfl ?_
        obtain ⟨x3, hx3, h⟩ := gn_bd h
        refine gc_VI (c_X4_isThrough hx3) my_X4_isThrough mv_X4_isThrough ob_38 ml_X4_131 rfl rfl ⟨Nat.le_of_ble_eq_true rfl, Nat.le_of_ble_eq_true rfl⟩ (Nat.le_of_ble_eq_true rfl) dX4_meet_25 (fun fx3 => ?_)
        refine gr_if_ne (tgt := 39) dX4_meet_28 (by decide) h (fun _ h => ?_) (fun _ h => ?_)
        · refine gr_aload_n dX4_meet_31 rfl rfl ?_
          refine gr_iload_n dX4_meet_32 rfl rfl ?_
          obtain ⟨x4, hx4, h⟩ := gn_bd h
          refine gc_VI (c_X4_isThrough hx4) my_X4_isThrough mv_X4_isThrough ob_38 ml_X4_131 rfl rfl ⟨Nat.le_of_ble_eq_true rfl, Nat.le_of_ble_eq_true rfl⟩ (Nat.le_of_ble_eq_true rfl) dX4_meet_33 (fun fx4 => ?_)
          refine gr_if_eq (tgt := 42) dX4_meet_36 (by decide) h (fun _ h => ?_) (fun _ h => ?_)
          · refine gr_aload_n dX4_meet_42 rfl rfl ?_
            refine gr_getI q_38_16 fl_X4_107 dX4_meet_43 ?_
            refine gr_bipush dX4_meet_46 gk_b_40 ?_
            refine gr_icmp_ne (tgt := 54) dX4_meet_48 (by decide) h (fun _ h => ?_) (fun _ h => ?_)
            · refine gr_bipush dX4_meet_51 gk_b_m2 ?_
              exact gq_retIM dX4_meet_53 rfl h
            · refine gr_aload_n dX4_meet_54 rfl rfl ?_
              obtain ⟨x5, hx5, h⟩ := gn_bd h
              refine gc_V0 (c_X4_begin hx5) my_X4_begin mv_X4_begin ob_38 ml_X4_162 rfl rfl ⟨Nat.le_of_ble_eq_true rfl, Nat.le_of_ble_eq_true rfl⟩ (Nat.le_of_ble_eq_true rfl) dX4_meet_55 (fun fx5 => ?_)
              refine gr_aload_n dX4_meet_58 rfl rfl ?_
              refine gr_iload_n dX4_meet_59 rfl rfl ?_
              refine gr_iload_n dX4_meet_60 rfl rfl ?_
              obtain ⟨x6, hx6, h⟩ := gn_bd h
              refine gc_VI (c_X4_meetNow hx6) my_X4_meetNow mv_X4_meetNow ob_38 ml_X4_165 rfl rfl ⟨Nat.le_of_ble_eq_true rfl, Nat.le_of_ble_eq_true rfl⟩ (Nat.le_of_ble_eq_true rfl) dX4_meet_61 (fun fx6 => ?_)
              exact gq_retIM dX4_meet_64 rfl h
          · refine gr_bipush dX4_meet_39 gk_b_m4 ?_
            exact gq_retIM dX4_meet_41 rfl h
        · refine gr_bipush dX4_meet_39 gk_b_m4 ?_
          exact gq_retIM dX4_meet_41 rfl h
def f_X4_card (n : Nat) (m : gn_M) (p0 : Int32) : Option (Int32 × gn_M) := (f_X4_isGoer m p0).bind (fun x1 => (if x1 = 0 then some ((-1 : Int32), m) else (f_X4_isThrough m p0).bind (fun x2 => (if x2 = 0 then (if (m.1 38 16) = (40 : Int32) then some ((-2 : Int32), m) else (f_X4_begin n m).bind (fun x3 => gn_rd x3 48 410 (((10 : Int32) * (x3.1 38 16)) + (9 : Int32)) (fun x4 => (f_X4_tellsOf x3 p0).bind (fun x5 => gn_wr x3 48 410 (((10 : Int32) * (x3.1 38 16)) + (9 : Int32)) (x4 ||| x5) (fun m6 => (f_X4_now m6 (9 : Int32)).bind (fun x7 => some (x7, m6))))))) else some ((-4 : Int32), m)))))
set_option maxRecDepth 100000 in
set_option maxHeartbeats 4000000 in
theorem c_X4_card {n : Nat} {m : gn_M} {p0 : Int32} {v : Int32 × gn_M} (h : f_X4_card n m p0 = some v) : gn_Cl yX4_card cX4_card 2 (some .int) 3 63 [.ref 38, .int p0] m (some (.int v.1)) v.2 := by
  rw [f_X4_card] at h
  refine gn_met (lv := [some (.ref 38), some (.int p0)]) pl_X4 rfl rfl (Nat.le_of_ble_eq_true rfl) ?_
  refine gr_aload_n dX4_card_0 rfl rfl ?_
  refine gr_iload_n dX4_card_1 rfl rfl ?_
  obtain ⟨x1, hx1, h⟩ := gn_bd h
  refine gc_VI (c_X4_isGoer hx1) my_X4_isGoer mv_X4_isGoer ob_38 ml_X4_143 rfl rfl ⟨Nat.le_of_ble_eq_true rfl, Nat.le_of_ble_eq_true rfl⟩ (Nat.le_of_ble_eq_true rfl) dX4_card_2 (fun fx1 => ?_)
  refine gr_if_ne (tgt := 10) dX4_card_5 (by decide) h (fun _ h => ?_) (fun _ h => ?_)
  · refine gr_iconst dX4_card_8 gk_i_m1 ?_
    exact gq_retIM dX4_card_9 rfl h
  · refine gr_aload_n dX4_card_10 rfl rfl ?_
    refine gr_iload_n dX4_card_11 rfl rfl ?_
    obtain ⟨x2, hx2, h⟩ := gn_bd h
    refine gc_VI (c_X4_isThrough hx2) my_X4_isThrough mv_X4_isThrough ob_38 ml_X4_131 rfl rfl ⟨Nat.le_of_ble_eq_true rfl, Nat.le_of_ble_eq_true rfl⟩ (Nat.le_of_ble_eq_true rfl) dX4_card_12 (fun fx2 => ?_)
    refine gr_if_eq (tgt := 21) dX4_card_15 (by decide) h (fun _ h => ?_) (fun _ h => ?_)
    · refine gr_aload_n dX4_card_21 rfl rfl ?_
      refine gr_getI q_38_16 fl_X4_107 dX4_card_22 ?_
      refine gr_bipush dX4_card_25 gk_b_40 ?_
      refine gr_icmp_ne (tgt := 33) dX4_card_27 (by decide) h (fun _ h => ?_) (fun _ h => ?_)
      · refine gr_bipush dX4_card_30 gk_b_m2 ?_
        exact gq_retIM dX4_card_32 rfl h
      · refine gr_aload_n dX4_card_33 rfl rfl ?_
        obtain ⟨x3, hx3, h⟩ := gn_bd h
        refine gc_V0 (c_X4_begin hx3) my_X4_begin mv_X4_begin ob_38 ml_X4_162 rfl rfl ⟨Nat.le_of_ble_eq_true rfl, Nat.le_of_ble_eq_true rfl⟩ (Nat.le_of_ble_eq_true rfl) dX4_card_34 (fun fx3 => ?_)
        refine gr_aload_n dX4_card_37 rfl rfl ?_
        refine gr_getR q_38_15 fl_X4_42 dX4_card_38 ?_
        refine gr_bipush dX4_card_41 gk_b_10 ?_
        refine gr_aload_n dX4_card_43 rfl rfl ?_
        refine gr_getI q_38_16 fl_X4_107 dX4_card_44 ?_
        refine gr_imul dX4_card_47 ?_
        refine gr_bipush dX4_card_48 gk_b_9 ?_
        refine gr_iadd dX4_card_50 ?_
        refine gr_dup2 dX4_card_51 rfl rfl ?_
        refine gq_iaload s_48 dX4_card_52 h (fun x4 h => ?_)
        refine gr_aload_n dX4_card_53 rfl rfl ?_
        refine gr_iload_n dX4_card_54 rfl rfl ?_
        obtain ⟨x5, hx5, h⟩ := gn_bd h
        refine gc_VI (c_X4_tellsOf hx5) my_X4_tellsOf mv_X4_tellsOf ob_38 ml_X4_140 rfl rfl ⟨Nat.le_of_ble_eq_true rfl, Nat.le_of_ble_eq_true rfl⟩ (Nat.le_of_ble_eq_true rfl) dX4_card_55 (fun fx5 => ?_)
        refine gr_ior dX4_card_58 ?_
        refine gq_iastore s_48 dX4_card_59 h (fun m6 h => ?_)
        refine gr_aload_n dX4_card_60 rfl rfl ?_
        refine gr_bipush dX4_card_61 gk_b_9 ?_
        obtain ⟨x7, hx7, h⟩ := gn_bd h
        refine gc_VI (c_X4_now hx7) my_X4_now mv_X4_now ob_38 ml_X4_110 rfl rfl ⟨Nat.le_of_ble_eq_true rfl, Nat.le_of_ble_eq_true rfl⟩ (Nat.le_of_ble_eq_true rfl) dX4_card_63 (fun fx7 => ?_)
        exact gq_retIM dX4_card_66 rfl h
    · refine gr_bipush dX4_card_18 gk_b_m4 ?_
      exact gq_retIM dX4_card_20 rfl h
def f_X4_reads (n : Nat) (m : gn_M) (p0 : Int32) : Option (Int32 × gn_M) := (f_X4_isGoer m p0).bind (fun x1 => (if x1 = 0 then some ((-1 : Int32), m) else (f_X4_isThrough m p0).bind (fun x2 => (if x2 = 0 then (if (m.1 38 16) = (40 : Int32) then some ((-2 : Int32), m) else (f_X4_begin n m).bind (fun x3 => (f_X4_now x3 (9 : Int32)).bind (fun x4 => (f_X4_tell n x3 p0 x4).bind (fun x5 => some (x5.1, x5.2))))) else some ((-4 : Int32), m)))))
set_option maxRecDepth 100000 in
set_option maxHeartbeats 4000000 in
theorem c_X4_reads {n : Nat} {m : gn_M} {p0 : Int32} {v : Int32 × gn_M} (h : f_X4_reads n m p0 = some v) : gn_Cl yX4_reads cX4_reads 2 (some .int) 2 46 [.ref 38, .int p0] m (some (.int v.1)) v.2 := by
  rw [f_X4_reads] at h
  refine gn_met (lv := [some (.ref 38), some (.int p0)]) pl_X4 rfl rfl (Nat.le_of_ble_eq_true rfl) ?_
  refine gr_aload_n dX4_reads_0 rfl rfl ?_
  refine gr_iload_n dX4_reads_1 rfl rfl ?_
  obtain ⟨x1, hx1, h⟩ := gn_bd h
  refine gc_VI (c_X4_isGoer hx1) my_X4_isGoer mv_X4_isGoer ob_38 ml_X4_143 rfl rfl ⟨Nat.le_of_ble_eq_true rfl, Nat.le_of_ble_eq_true rfl⟩ (Nat.le_of_ble_eq_true rfl) dX4_reads_2 (fun fx1 => ?_)
  refine gr_if_ne (tgt := 10) dX4_reads_5 (by decide) h (fun _ h => ?_) (fun _ h => ?_)
  · refine gr_iconst dX4_reads_8 gk_i_m1 ?_
    exact gq_retIM dX4_reads_9 rfl h
  · refine gr_aload_n dX4_reads_10 rfl rfl ?_
    refine gr_iload_n dX4_reads_11 rfl rfl ?_
    obtain ⟨x2, hx2, h⟩ := gn_bd h
    refine gc_VI (c_X4_isThrough hx2) my_X4_isThrough mv_X4_isThrough ob_38 ml_X4_131 rfl rfl ⟨Nat.le_of_ble_eq_true rfl, Nat.le_of_ble_eq_true rfl⟩ (Nat.le_of_ble_eq_true rfl) dX4_reads_12 (fun fx2 => ?_)
    refine gr_if_eq (tgt := 21) dX4_reads_15 (by decide) h (fun _ h => ?_) (fun _ h => ?_)
    · refine gr_aload_n dX4_reads_21 rfl rfl ?_
      refine gr_getI q_38_16 fl_X4_107 dX4_reads_22 ?_
      refine gr_bipush dX4_reads_25 gk_b_40 ?_
      refine gr_icmp_ne (tgt := 33) dX4_reads_27 (by decide) h (fun _ h => ?_) (fun _ h => ?_)
      · refine gr_bipush dX4_reads_30 gk_b_m2 ?_
        exact gq_retIM dX4_reads_32 rfl h
      · refine gr_aload_n dX4_reads_33 rfl rfl ?_
        obtain ⟨x3, hx3, h⟩ := gn_bd h
        refine gc_V0 (c_X4_begin hx3) my_X4_begin mv_X4_begin ob_38 ml_X4_162 rfl rfl ⟨Nat.le_of_ble_eq_true rfl, Nat.le_of_ble_eq_true rfl⟩ (Nat.le_of_ble_eq_true rfl) dX4_reads_34 (fun fx3 => ?_)
        refine gr_aload_n dX4_reads_37 rfl rfl ?_
        refine gr_iload_n dX4_reads_38 rfl rfl ?_
        refine gr_aload_n dX4_reads_39 rfl rfl ?_
        refine gr_bipush dX4_reads_40 gk_b_9 ?_
        obtain ⟨x4, hx4, h⟩ := gn_bd h
        refine gc_VI (c_X4_now hx4) my_X4_now mv_X4_now ob_38 ml_X4_110 rfl rfl ⟨Nat.le_of_ble_eq_true rfl, Nat.le_of_ble_eq_true rfl⟩ (Nat.le_of_ble_eq_true rfl) dX4_reads_42 (fun fx4 => ?_)
        obtain ⟨x5, hx5, h⟩ := gn_bd h
        refine gc_VI (c_X4_tell hx5) my_X4_tell mv_X4_tell ob_38 ml_X4_159 rfl rfl ⟨Nat.le_of_ble_eq_true rfl, Nat.le_of_ble_eq_true rfl⟩ (Nat.le_of_ble_eq_true rfl) dX4_reads_45 (fun fx5 => ?_)
        exact gq_retIM dX4_reads_48 rfl h
    · refine gr_bipush dX4_reads_18 gk_b_m4 ?_
      exact gq_retIM dX4_reads_20 rfl h
def f_X4_goNow (m : gn_M) (p0 : Int32) : Option (gn_M) := gn_rd m 48 410 (((10 : Int32) * (m.1 38 16)) + (7 : Int32)) (fun x1 => gn_wr m 48 410 (((10 : Int32) * (m.1 38 16)) + (7 : Int32)) (x1 ||| ((1 : Int32) <<< (p0 &&& 31))) (fun m2 => gn_wr m2 48 410 (((10 : Int32) * (m2.1 38 16)) + (8 : Int32)) p0 (fun m3 => some m3)))
set_option maxRecDepth 100000 in
set_option maxHeartbeats 4000000 in
theorem c_X4_goNow {m : gn_M} {p0 : Int32} {v : gn_M} (h : f_X4_goNow m p0 = some v) : gn_Cl yX4_goNow cX4_goNow 2 none 0 0 [.ref 38, .int p0] m none v := by
  rw [f_X4_goNow] at h
  refine gn_met (lv := [some (.ref 38), some (.int p0)]) pl_X4 rfl rfl (Nat.le_of_ble_eq_true rfl) ?_
  refine gr_aload_n dX4_goNow_0 rfl rfl ?_
  refine gr_getR q_38_15 fl_X4_42 dX4_goNow_1 ?_
  refine gr_bipush dX4_goNow_4 gk_b_10 ?_
  refine gr_aload_n dX4_goNow_6 rfl rfl ?_
  refine gr_getI q_38_16 fl_X4_107 dX4_goNow_7 ?_
  refine gr_imul dX4_goNow_10 ?_
  refine gr_bipush dX4_goNow_11 gk_b_7 ?_
  refine gr_iadd dX4_goNow_13 ?_
  refine gr_dup2 dX4_goNow_14 rfl rfl ?_
  refine gq_iaload s_48 dX4_goNow_15 h (fun x1 h => ?_)
  refine gr_iconst dX4_goNow_16 gk_i_1 ?_
  refine gr_iload_n dX4_goNow_17 rfl rfl ?_
  refine gr_ishl dX4_goNow_18 ?_
  refine gr_ior dX4_goNow_19 ?_
  refine gq_iastore s_48 dX4_goNow_20 h (fun m2 h => ?_)
  refine gr_aload_n dX4_goNow_21 rfl rfl ?_
  refine gr_getR q_38_15 fl_X4_42 dX4_goNow_22 ?_
  refine gr_bipush dX4_goNow_25 gk_b_10 ?_
  refine gr_aload_n dX4_goNow_27 rfl rfl ?_
  refine gr_getI q_38_16 fl_X4_107 dX4_goNow_28 ?_
  refine gr_imul dX4_goNow_31 ?_
  refine gr_bipush dX4_goNow_32 gk_b_8 ?_
  refine gr_iadd dX4_goNow_34 ?_
  refine gr_iload_n dX4_goNow_35 rfl rfl ?_
  refine gq_iastore s_48 dX4_goNow_36 h (fun m3 h => ?_)
  exact gq_retVM dX4_goNow_37 trivial h
def f_X4_go (n : Nat) (m : gn_M) (p0 : Int32) : Option (Int32 × gn_M) := (f_X4_isGoer m p0).bind (fun x1 => (if x1 = 0 then some ((-1 : Int32), m) else (f_X4_isOpen n m p0).bind (fun x2 => (if x2 = 0 then some ((-4 : Int32), m) else (if (m.1 38 16) = (40 : Int32) then some ((-2 : Int32), m) else (f_X4_begin n m).bind (fun x3 => (f_X4_goNow x3 p0).bind (fun x4 => (f_X4_now x4 (7 : Int32)).bind (fun x5 => (f_X4_bitsOf n x5).bind (fun x6 => some (x6, x4))))))))))
set_option maxRecDepth 100000 in
set_option maxHeartbeats 4000000 in
theorem c_X4_go {n : Nat} {m : gn_M} {p0 : Int32} {v : Int32 × gn_M} (h : f_X4_go n m p0 = some v) : gn_Cl yX4_go cX4_go 2 (some .int) 4 89 [.ref 38, .int p0] m (some (.int v.1)) v.2 := by
  rw [f_X4_go] at h
  refine gn_met (lv := [some (.ref 38), some (.int p0)]) pl_X4 rfl rfl (Nat.le_of_ble_eq_true rfl) ?_
  refine gr_aload_n dX4_go_0 rfl rfl ?_
  refine gr_iload_n dX4_go_1 rfl rfl ?_
  obtain ⟨x1, hx1, h⟩ := gn_bd h
  refine gc_VI (c_X4_isGoer hx1) my_X4_isGoer mv_X4_isGoer ob_38 ml_X4_143 rfl rfl ⟨Nat.le_of_ble_eq_true rfl, Nat.le_of_ble_eq_true rfl⟩ (Nat.le_of_ble_eq_true rfl) dX4_go_2 (fun fx1 => ?_)
  refine gr_if_ne (tgt := 10) dX4_go_5 (by decide) h (fun _ h => ?_) (fun _ h => ?_)
  · refine gr_iconst dX4_go_8 gk_i_m1 ?_
    exact gq_retIM dX4_go_9 rfl h
  · refine gr_aload_n dX4_go_10 rfl rfl ?_
    refine gr_iload_n dX4_go_11 rfl rfl ?_
    obtain ⟨x2, hx2, h⟩ := gn_bd h
    refine gc_VI (c_X4_isOpen hx2) my_X4_isOpen mv_X4_isOpen ob_38 ml_X4_137 rfl rfl ⟨Nat.le_of_ble_eq_true rfl, Nat.le_of_ble_eq_true rfl⟩ (Nat.le_of_ble_eq_true rfl) dX4_go_12 (fun fx2 => ?_)
    refine gr_if_ne (tgt := 21) dX4_go_15 (by decide) h (fun _ h => ?_) (fun _ h => ?_)
    · refine gr_bipush dX4_go_18 gk_b_m4 ?_
      exact gq_retIM dX4_go_20 rfl h
    · refine gr_aload_n dX4_go_21 rfl rfl ?_
      refine gr_getI q_38_16 fl_X4_107 dX4_go_22 ?_
      refine gr_bipush dX4_go_25 gk_b_40 ?_
      refine gr_icmp_ne (tgt := 33) dX4_go_27 (by decide) h (fun _ h => ?_) (fun _ h => ?_)
      · refine gr_bipush dX4_go_30 gk_b_m2 ?_
        exact gq_retIM dX4_go_32 rfl h
      · refine gr_aload_n dX4_go_33 rfl rfl ?_
        obtain ⟨x3, hx3, h⟩ := gn_bd h
        refine gc_V0 (c_X4_begin hx3) my_X4_begin mv_X4_begin ob_38 ml_X4_162 rfl rfl ⟨Nat.le_of_ble_eq_true rfl, Nat.le_of_ble_eq_true rfl⟩ (Nat.le_of_ble_eq_true rfl) dX4_go_34 (fun fx3 => ?_)
        refine gr_aload_n dX4_go_37 rfl rfl ?_
        refine gr_iload_n dX4_go_38 rfl rfl ?_
        obtain ⟨x4, hx4, h⟩ := gn_bd h
        refine gc_V0 (c_X4_goNow hx4) my_X4_goNow mv_X4_goNow ob_38 ml_X4_168 rfl rfl ⟨Nat.le_of_ble_eq_true rfl, Nat.le_of_ble_eq_true rfl⟩ (Nat.le_of_ble_eq_true rfl) dX4_go_39 (fun fx4 => ?_)
        refine gr_aload_n dX4_go_42 rfl rfl ?_
        refine gr_bipush dX4_go_43 gk_b_7 ?_
        obtain ⟨x5, hx5, h⟩ := gn_bd h
        refine gc_VI (c_X4_now hx5) my_X4_now mv_X4_now ob_38 ml_X4_110 rfl rfl ⟨Nat.le_of_ble_eq_true rfl, Nat.le_of_ble_eq_true rfl⟩ (Nat.le_of_ble_eq_true rfl) dX4_go_45 (fun fx5 => ?_)
        obtain ⟨x6, hx6, h⟩ := gn_bd h
        refine gc_SI (c_X4_bitsOf hx6) my_X4_bitsOf ms_X4_bitsOf ml_X4_153 rfl rfl ⟨Nat.le_of_ble_eq_true rfl, Nat.le_of_ble_eq_true rfl⟩ (Nat.le_of_ble_eq_true rfl) dX4_go_48 (fun fx6 => ?_)
        exact gq_retIM dX4_go_51 rfl h
def f_X4_undo (m : gn_M) (p0 : Int32) : Option (Int32 × gn_M) := (f_X4_in p0 (0 : Int32) (m.1 38 16)).bind (fun x1 => (if x1 = 0 then some ((-1 : Int32), m) else gn_pf m 38 16 p0 (fun m2 => some (((m.1 38 16) - p0), m2))))
set_option maxRecDepth 100000 in
set_option maxHeartbeats 4000000 in
theorem c_X4_undo {m : gn_M} {p0 : Int32} {v : Int32 × gn_M} (h : f_X4_undo m p0 = some v) : gn_Cl yX4_undo cX4_undo 3 (some .int) 1 22 [.ref 38, .int p0] m (some (.int v.1)) v.2 := by
  rw [f_X4_undo] at h
  refine gn_met (lv := [some (.ref 38), some (.int p0), none]) pl_X4 rfl rfl (Nat.le_of_ble_eq_true rfl) ?_
  refine gr_iload_n dX4_undo_0 rfl rfl ?_
  refine gr_iconst dX4_undo_1 gk_i_0 ?_
  refine gr_aload_n dX4_undo_2 rfl rfl ?_
  refine gr_getI q_38_16 fl_X4_107 dX4_undo_3 ?_
  obtain ⟨x1, hx1, h⟩ := gn_bd h
  refine gc_SI (c_X4_in hx1) my_X4_in ms_X4_in ml_X4_77 rfl rfl ⟨Nat.le_of_ble_eq_true rfl, Nat.le_of_ble_eq_true rfl⟩ (Nat.le_of_ble_eq_true rfl) dX4_undo_6 (fun fx1 => ?_)
  refine gr_if_ne (tgt := 14) dX4_undo_9 (by decide) h (fun _ h => ?_) (fun _ h => ?_)
  · refine gr_iconst dX4_undo_12 gk_i_m1 ?_
    exact gq_retIM dX4_undo_13 rfl h
  · refine gr_aload_n dX4_undo_14 rfl rfl ?_
    refine gr_getI q_38_16 fl_X4_107 dX4_undo_15 ?_
    refine gr_iload_n dX4_undo_18 rfl rfl ?_
    refine gr_isub dX4_undo_19 ?_
    refine gr_istore_n (lv' := [some (.ref 38), some (.int p0), some (.int ((m.1 38 16) - p0))]) dX4_undo_20 rfl (by decide) rfl ?_
    refine gr_aload_n dX4_undo_21 rfl rfl ?_
    refine gr_iload_n dX4_undo_22 rfl rfl ?_
    refine gq_putI q_38_16 rfl rfl fl_X4_107 dX4_undo_23 h (fun m2 h => ?_)
    refine gr_iload_n dX4_undo_26 rfl rfl ?_
    exact gq_retIM dX4_undo_27 rfl h
def L_X4_keep_23 (n : Nat) (a1 : Int32) (k : gn_M → Option (Int32 × gn_M)) : Nat → Int32 → gn_M → Option (Int32 × gn_M)
  | 0, _, _ => none
  | f + 1, v2, m => (if v2 < (410 : Int32) then gn_rd m 48 410 v2 (fun x2 => gn_wr m 49 1230 (((410 : Int32) * a1) + v2) x2 (fun m3 => L_X4_keep_23 n a1 k f (v2 + (1 : Int32)) m3)) else k m)
set_option maxRecDepth 100000 in
set_option maxHeartbeats 4000000 in
theorem l_X4_keep_23 {n : Nat} {a1 : Int32} {k : gn_M → Option (Int32 × gn_M)} {v : Int32 × gn_M} (hk : ∀ (m1 : gn_M), k m1 = some v → gn_Go RX4 cX4_keep 3 1 22 (some .int) none 54 [some (.ref 38), some (.int a1), none] [] m1 (some (.int v.1)) v.2) : ∀ (f : Nat) (v2 : Int32) (m : gn_M), L_X4_keep_23 n a1 k f v2 m = some v → gn_Go RX4 cX4_keep 3 1 22 (some .int) none 23 [some (.ref 38), some (.int a1), some (.int v2)] [] m (some (.int v.1)) v.2 := by
  intro f
  induction f with
  | zero =>
    intro v2 m h
    cases h
  | succ f ih =>
    intro v2 m h
    rw [L_X4_keep_23] at h
    refine gr_iload_n dX4_keep_23 rfl rfl ?_
    refine gr_sipush dX4_keep_24 gk_s_410 ?_
    refine gr_icmp_ge (tgt := 54) dX4_keep_27 (by decide) h (fun _ h => ?_) (fun _ h => ?_)
    · refine gr_aload_n dX4_keep_30 rfl rfl ?_
      refine gr_getR q_38_17 fl_X4_45 dX4_keep_31 ?_
      refine gr_sipush dX4_keep_34 gk_s_410 ?_
      refine gr_iload_n dX4_keep_37 rfl rfl ?_
      refine gr_imul dX4_keep_38 ?_
      refine gr_iload_n dX4_keep_39 rfl rfl ?_
      refine gr_iadd dX4_keep_40 ?_
      refine gr_aload_n dX4_keep_41 rfl rfl ?_
      refine gr_getR q_38_15 fl_X4_42 dX4_keep_42 ?_
      refine gr_iload_n dX4_keep_45 rfl rfl ?_
      refine gq_iaload s_48 dX4_keep_46 h (fun x2 h => ?_)
      refine gq_iastore s_49 dX4_keep_47 h (fun m3 h => ?_)
      refine gr_iinc (lv' := [some (.ref 38), some (.int a1), some (.int (v2 + (1 : Int32)))]) dX4_keep_48 rfl gk_i_1 (by decide) rfl ?_
      refine gr_goto (tgt := 23) dX4_keep_51 (by decide) ?_
      exact ih _ _ h
    · refine gn_wkn [true, true, false] rfl ?_
      exact hk _ h
def f_X4_keep (n : Nat) (m : gn_M) (p0 : Int32) : Option (Int32 × gn_M) := (f_X4_in p0 (0 : Int32) (2 : Int32)).bind (fun x1 => (if x1 = 0 then some ((-1 : Int32), m) else (if (m.1 38 10) = 0 then some ((-4 : Int32), m) else L_X4_keep_23 n p0 (fun (m4 : gn_M) => gn_wr m4 50 3 p0 (m4.1 38 16) (fun m5 => some ((m5.1 38 16), m5))) n (0 : Int32) m)))
set_option maxRecDepth 100000 in
set_option maxHeartbeats 4000000 in
theorem c_X4_keep {n : Nat} {m : gn_M} {p0 : Int32} {v : Int32 × gn_M} (h : f_X4_keep n m p0 = some v) : gn_Cl yX4_keep cX4_keep 3 (some .int) 1 22 [.ref 38, .int p0] m (some (.int v.1)) v.2 := by
  rw [f_X4_keep] at h
  refine gn_met (lv := [some (.ref 38), some (.int p0), none]) pl_X4 rfl rfl (Nat.le_of_ble_eq_true rfl) ?_
  refine gr_iload_n dX4_keep_0 rfl rfl ?_
  refine gr_iconst dX4_keep_1 gk_i_0 ?_
  refine gr_iconst dX4_keep_2 gk_i_2 ?_
  obtain ⟨x1, hx1, h⟩ := gn_bd h
  refine gc_SI (c_X4_in hx1) my_X4_in ms_X4_in ml_X4_77 rfl rfl ⟨Nat.le_of_ble_eq_true rfl, Nat.le_of_ble_eq_true rfl⟩ (Nat.le_of_ble_eq_true rfl) dX4_keep_3 (fun fx1 => ?_)
  refine gr_if_ne (tgt := 11) dX4_keep_6 (by decide) h (fun _ h => ?_) (fun _ h => ?_)
  · refine gr_iconst dX4_keep_9 gk_i_m1 ?_
    exact gq_retIM dX4_keep_10 rfl h
  · refine gr_aload_n dX4_keep_11 rfl rfl ?_
    refine gr_getI q_38_10 fl_X4_104 dX4_keep_12 ?_
    refine gr_if_ne (tgt := 21) dX4_keep_15 (by decide) h (fun _ h => ?_) (fun _ h => ?_)
    · refine gr_bipush dX4_keep_18 gk_b_m4 ?_
      exact gq_retIM dX4_keep_20 rfl h
    · refine gr_iconst dX4_keep_21 gk_i_0 ?_
      refine gr_istore_n (lv' := [some (.ref 38), some (.int p0), some (.int (0 : Int32))]) dX4_keep_22 rfl (by decide) rfl ?_
      refine l_X4_keep_23 (fun m4 h => ?_) _ _ _ h
      refine gr_aload_n dX4_keep_54 rfl rfl ?_
      refine gr_getR q_38_18 fl_X4_48 dX4_keep_55 ?_
      refine gr_iload_n dX4_keep_58 rfl rfl ?_
      refine gr_aload_n dX4_keep_59 rfl rfl ?_
      refine gr_getI q_38_16 fl_X4_107 dX4_keep_60 ?_
      refine gq_iastore s_50 dX4_keep_63 h (fun m5 h => ?_)
      refine gr_aload_n dX4_keep_64 rfl rfl ?_
      refine gr_getI q_38_16 fl_X4_107 dX4_keep_65 ?_
      exact gq_retIM dX4_keep_68 rfl h
def L_X4_on_28 (n : Nat) (a1 : Int32) (k : gn_M → Option (Int32 × gn_M)) : Nat → Int32 → gn_M → Option (Int32 × gn_M)
  | 0, _, _ => none
  | f + 1, v2, m => (if v2 < (410 : Int32) then gn_rd m 49 1230 (((410 : Int32) * a1) + v2) (fun x4 => gn_wr m 48 410 v2 x4 (fun m5 => L_X4_on_28 n a1 k f (v2 + (1 : Int32)) m5)) else k m)
set_option maxRecDepth 100000 in
set_option maxHeartbeats 4000000 in
theorem l_X4_on_28 {n : Nat} {a1 : Int32} {k : gn_M → Option (Int32 × gn_M)} {v : Int32 × gn_M} (hk : ∀ (m1 : gn_M), k m1 = some v → gn_Go RX4 cX4_on 3 1 22 (some .int) none 59 [some (.ref 38), some (.int a1), none] [] m1 (some (.int v.1)) v.2) : ∀ (f : Nat) (v2 : Int32) (m : gn_M), L_X4_on_28 n a1 k f v2 m = some v → gn_Go RX4 cX4_on 3 1 22 (some .int) none 28 [some (.ref 38), some (.int a1), some (.int v2)] [] m (some (.int v.1)) v.2 := by
  intro f
  induction f with
  | zero =>
    intro v2 m h
    cases h
  | succ f ih =>
    intro v2 m h
    rw [L_X4_on_28] at h
    refine gr_iload_n dX4_on_28 rfl rfl ?_
    refine gr_sipush dX4_on_29 gk_s_410 ?_
    refine gr_icmp_ge (tgt := 59) dX4_on_32 (by decide) h (fun _ h => ?_) (fun _ h => ?_)
    · refine gr_aload_n dX4_on_35 rfl rfl ?_
      refine gr_getR q_38_15 fl_X4_42 dX4_on_36 ?_
      refine gr_iload_n dX4_on_39 rfl rfl ?_
      refine gr_aload_n dX4_on_40 rfl rfl ?_
      refine gr_getR q_38_17 fl_X4_45 dX4_on_41 ?_
      refine gr_sipush dX4_on_44 gk_s_410 ?_
      refine gr_iload_n dX4_on_47 rfl rfl ?_
      refine gr_imul dX4_on_48 ?_
      refine gr_iload_n dX4_on_49 rfl rfl ?_
      refine gr_iadd dX4_on_50 ?_
      refine gq_iaload s_49 dX4_on_51 h (fun x4 h => ?_)
      refine gq_iastore s_48 dX4_on_52 h (fun m5 h => ?_)
      refine gr_iinc (lv' := [some (.ref 38), some (.int a1), some (.int (v2 + (1 : Int32)))]) dX4_on_53 rfl gk_i_1 (by decide) rfl ?_
      refine gr_goto (tgt := 28) dX4_on_56 (by decide) ?_
      exact ih _ _ h
    · refine gn_wkn [true, true, false] rfl ?_
      exact hk _ h
def f_X4_on (n : Nat) (m : gn_M) (p0 : Int32) : Option (Int32 × gn_M) := (f_X4_in p0 (0 : Int32) (2 : Int32)).bind (fun x1 => (if x1 = 0 then some ((-1 : Int32), m) else gn_rd m 50 3 p0 (fun x2 => (if x2 < 0 then (f_X4_find m (1 : Int32)).bind (fun x3 => some (x3.1, x3.2)) else L_X4_on_28 n p0 (fun (m6 : gn_M) => gn_rd m6 50 3 p0 (fun x7 => gn_pf m6 38 16 x7 (fun m8 => some ((m8.1 38 16), m8)))) n (0 : Int32) m))))
set_option maxRecDepth 100000 in
set_option maxHeartbeats 4000000 in
theorem c_X4_on {n : Nat} {m : gn_M} {p0 : Int32} {v : Int32 × gn_M} (h : f_X4_on n m p0 = some v) : gn_Cl yX4_on cX4_on 3 (some .int) 1 22 [.ref 38, .int p0] m (some (.int v.1)) v.2 := by
  rw [f_X4_on] at h
  refine gn_met (lv := [some (.ref 38), some (.int p0), none]) pl_X4 rfl rfl (Nat.le_of_ble_eq_true rfl) ?_
  refine gr_iload_n dX4_on_0 rfl rfl ?_
  refine gr_iconst dX4_on_1 gk_i_0 ?_
  refine gr_iconst dX4_on_2 gk_i_2 ?_
  obtain ⟨x1, hx1, h⟩ := gn_bd h
  refine gc_SI (c_X4_in hx1) my_X4_in ms_X4_in ml_X4_77 rfl rfl ⟨Nat.le_of_ble_eq_true rfl, Nat.le_of_ble_eq_true rfl⟩ (Nat.le_of_ble_eq_true rfl) dX4_on_3 (fun fx1 => ?_)
  refine gr_if_ne (tgt := 11) dX4_on_6 (by decide) h (fun _ h => ?_) (fun _ h => ?_)
  · refine gr_iconst dX4_on_9 gk_i_m1 ?_
    exact gq_retIM dX4_on_10 rfl h
  · refine gr_aload_n dX4_on_11 rfl rfl ?_
    refine gr_getR q_38_18 fl_X4_48 dX4_on_12 ?_
    refine gr_iload_n dX4_on_15 rfl rfl ?_
    refine gq_iaload s_50 dX4_on_16 h (fun x2 h => ?_)
    refine gr_if_ge (tgt := 26) dX4_on_17 (by decide) h (fun _ h => ?_) (fun _ h => ?_)
    · refine gr_aload_n dX4_on_20 rfl rfl ?_
      refine gr_iconst dX4_on_21 gk_i_1 ?_
      obtain ⟨x3, hx3, h⟩ := gn_bd h
      refine gc_VI (c_X4_find hx3) my_X4_find mv_X4_find ob_38 ml_X4_85 rfl rfl ⟨Nat.le_of_ble_eq_true rfl, Nat.le_of_ble_eq_true rfl⟩ (Nat.le_of_ble_eq_true rfl) dX4_on_22 (fun fx3 => ?_)
      exact gq_retIM dX4_on_25 rfl h
    · refine gr_iconst dX4_on_26 gk_i_0 ?_
      refine gr_istore_n (lv' := [some (.ref 38), some (.int p0), some (.int (0 : Int32))]) dX4_on_27 rfl (by decide) rfl ?_
      refine l_X4_on_28 (fun m6 h => ?_) _ _ _ h
      refine gr_aload_n dX4_on_59 rfl rfl ?_
      refine gr_aload_n dX4_on_60 rfl rfl ?_
      refine gr_getR q_38_18 fl_X4_48 dX4_on_61 ?_
      refine gr_iload_n dX4_on_64 rfl rfl ?_
      refine gq_iaload s_50 dX4_on_65 h (fun x7 h => ?_)
      refine gq_putI q_38_16 rfl rfl fl_X4_107 dX4_on_66 h (fun m8 h => ?_)
      refine gr_aload_n dX4_on_69 rfl rfl ?_
      refine gr_getI q_38_16 fl_X4_107 dX4_on_70 ?_
      exact gq_retIM dX4_on_73 rfl h
def L_X4_openTo_4 (n : Nat) (m : gn_M) (k : Int32 → Option (Int32)) : Nat → Int32 → Int32 → Option (Int32)
  | 0, _, _ => none
  | f + 1, v1, v2 => (if v2 < (m.1 38 10) then (f_X4_isOpen n m v2).bind (fun x1 => (if x1 = 0 then L_X4_openTo_4 n m k f (v1 ||| (0 : Int32)) (v2 + (1 : Int32)) else L_X4_openTo_4 n m k f (v1 ||| ((1 : Int32) <<< (v2 &&& 31))) (v2 + (1 : Int32)))) else k v1)
set_option maxRecDepth 100000 in
set_option maxHeartbeats 4000000 in
theorem l_X4_openTo_4 {n : Nat} {m : gn_M} {k : Int32 → Option (Int32)} {v : Int32} (hk : ∀ (e1 : Int32), k e1 = some v → gn_Go RX4 cX4_openTo 3 4 89 (some .int) none 36 [none, some (.int e1), none] [] m (some (.int v)) m) : ∀ (f : Nat) (v1 : Int32) (v2 : Int32), L_X4_openTo_4 n m k f v1 v2 = some v → gn_Go RX4 cX4_openTo 3 4 89 (some .int) none 4 [some (.ref 38), some (.int v1), some (.int v2)] [] m (some (.int v)) m := by
  intro f
  induction f with
  | zero =>
    intro v1 v2 h
    cases h
  | succ f ih =>
    intro v1 v2 h
    rw [L_X4_openTo_4] at h
    refine gr_iload_n dX4_openTo_4 rfl rfl ?_
    refine gr_aload_n dX4_openTo_5 rfl rfl ?_
    refine gr_getI q_38_10 fl_X4_104 dX4_openTo_6 ?_
    refine gr_icmp_ge (tgt := 36) dX4_openTo_9 (by decide) h (fun _ h => ?_) (fun _ h => ?_)
    · refine gr_iload_n dX4_openTo_12 rfl rfl ?_
      refine gr_aload_n dX4_openTo_13 rfl rfl ?_
      refine gr_iload_n dX4_openTo_14 rfl rfl ?_
      obtain ⟨x1, hx1, h⟩ := gn_bd h
      refine gc_VI (c_X4_isOpen hx1) my_X4_isOpen mv_X4_isOpen ob_38 ml_X4_137 rfl rfl ⟨Nat.le_of_ble_eq_true rfl, Nat.le_of_ble_eq_true rfl⟩ (Nat.le_of_ble_eq_true rfl) dX4_openTo_15 (fun fx1 => ?_)
      refine gr_if_eq (tgt := 27) dX4_openTo_18 (by decide) h (fun _ h => ?_) (fun _ h => ?_)
      · refine gr_iconst dX4_openTo_27 gk_i_0 ?_
        refine gr_ior dX4_openTo_28 ?_
        refine gr_istore_n (lv' := [some (.ref 38), some (.int (v1 ||| (0 : Int32))), some (.int v2)]) dX4_openTo_29 rfl (by decide) rfl ?_
        refine gr_iinc (lv' := [some (.ref 38), some (.int (v1 ||| (0 : Int32))), some (.int (v2 + (1 : Int32)))]) dX4_openTo_30 rfl gk_i_1 (by decide) rfl ?_
        refine gr_goto (tgt := 4) dX4_openTo_33 (by decide) ?_
        exact ih _ _ h
      · refine gr_iconst dX4_openTo_21 gk_i_1 ?_
        refine gr_iload_n dX4_openTo_22 rfl rfl ?_
        refine gr_ishl dX4_openTo_23 ?_
        refine gr_goto (tgt := 28) dX4_openTo_24 (by decide) ?_
        refine gr_ior dX4_openTo_28 ?_
        refine gr_istore_n (lv' := [some (.ref 38), some (.int (v1 ||| ((1 : Int32) <<< (v2 &&& 31)))), some (.int v2)]) dX4_openTo_29 rfl (by decide) rfl ?_
        refine gr_iinc (lv' := [some (.ref 38), some (.int (v1 ||| ((1 : Int32) <<< (v2 &&& 31)))), some (.int (v2 + (1 : Int32)))]) dX4_openTo_30 rfl gk_i_1 (by decide) rfl ?_
        refine gr_goto (tgt := 4) dX4_openTo_33 (by decide) ?_
        exact ih _ _ h
    · refine gn_wkn [false, true, false] rfl ?_
      exact hk _ h
def f_X4_openTo (n : Nat) (m : gn_M) : Option (Int32) := L_X4_openTo_4 n m (fun (e2 : Int32) => some e2) n (0 : Int32) (0 : Int32)
set_option maxRecDepth 100000 in
set_option maxHeartbeats 4000000 in
theorem c_X4_openTo {n : Nat} {m : gn_M} {v : Int32} (h : f_X4_openTo n m = some v) : gn_Cl yX4_openTo cX4_openTo 3 (some .int) 4 89 [.ref 38] m (some (.int v)) m := by
  rw [f_X4_openTo] at h
  refine gn_met (lv := [some (.ref 38), none, none]) pl_X4 rfl rfl (Nat.le_of_ble_eq_true rfl) ?_
  refine gr_iconst dX4_openTo_0 gk_i_0 ?_
  refine gr_istore_n (lv' := [some (.ref 38), some (.int (0 : Int32)), none]) dX4_openTo_1 rfl (by decide) rfl ?_
  refine gr_iconst dX4_openTo_2 gk_i_0 ?_
  refine gr_istore_n (lv' := [some (.ref 38), some (.int (0 : Int32)), some (.int (0 : Int32))]) dX4_openTo_3 rfl (by decide) rfl ?_
  refine l_X4_openTo_4 (fun e2 h => ?_) _ _ _ h
  refine gr_iload_n dX4_openTo_36 rfl rfl ?_
  exact gq_retI dX4_openTo_37 rfl h
def L_X4_open_4 (n : Nat) (m : gn_M) (k : Int32 → Option (Int32 × gn_M)) : Nat → Int32 → Int32 → Option (Int32 × gn_M)
  | 0, _, _ => none
  | f + 1, v1, v2 => (if v2 < (m.1 38 10) then (f_X4_now m (8 : Int32)).bind (fun x1 => (if x1 = (-9 : Int32) then L_X4_open_4 n m k f (v1 + (1 : Int32)) (v2 + (1 : Int32)) else (f_X4_namesOf n m v2).bind (fun x2 => (f_X4_now m (8 : Int32)).bind (fun x3 => (f_X4_has x2 x3).bind (fun x4 => (if x4 = 0 then L_X4_open_4 n m k f (v1 + (0 : Int32)) (v2 + (1 : Int32)) else L_X4_open_4 n m k f (v1 + (1 : Int32)) (v2 + (1 : Int32)))))))) else k v1)
set_option maxRecDepth 100000 in
set_option maxHeartbeats 4000000 in
theorem l_X4_open_4 {n : Nat} {m : gn_M} {k : Int32 → Option (Int32 × gn_M)} {v : Int32 × gn_M} (hk : ∀ (e1 : Int32), k e1 = some v → gn_Go RX4 cX4_open 3 5 111 (some .int) none 54 [some (.ref 38), some (.int e1), none] [] m (some (.int v.1)) v.2) : ∀ (f : Nat) (v1 : Int32) (v2 : Int32), L_X4_open_4 n m k f v1 v2 = some v → gn_Go RX4 cX4_open 3 5 111 (some .int) none 4 [some (.ref 38), some (.int v1), some (.int v2)] [] m (some (.int v.1)) v.2 := by
  intro f
  induction f with
  | zero =>
    intro v1 v2 h
    cases h
  | succ f ih =>
    intro v1 v2 h
    rw [L_X4_open_4] at h
    refine gr_iload_n dX4_open_4 rfl rfl ?_
    refine gr_aload_n dX4_open_5 rfl rfl ?_
    refine gr_getI q_38_10 fl_X4_104 dX4_open_6 ?_
    refine gr_icmp_ge (tgt := 54) dX4_open_9 (by decide) h (fun _ h => ?_) (fun _ h => ?_)
    · refine gr_iload_n dX4_open_12 rfl rfl ?_
      refine gr_aload_n dX4_open_13 rfl rfl ?_
      refine gr_bipush dX4_open_14 gk_b_8 ?_
      obtain ⟨x1, hx1, h⟩ := gn_bd h
      refine gc_VI (c_X4_now hx1) my_X4_now mv_X4_now ob_38 ml_X4_110 rfl rfl ⟨Nat.le_of_ble_eq_true rfl, Nat.le_of_ble_eq_true rfl⟩ (Nat.le_of_ble_eq_true rfl) dX4_open_16 (fun fx1 => ?_)
      refine gr_bipush dX4_open_19 gk_b_m9 ?_
      refine gr_icmp_eq (tgt := 41) dX4_open_21 (by decide) h (fun _ h => ?_) (fun _ h => ?_)
      · refine gr_iconst dX4_open_41 gk_i_1 ?_
        refine gr_goto (tgt := 46) dX4_open_42 (by decide) ?_
        refine gr_iadd dX4_open_46 ?_
        refine gr_istore_n (lv' := [some (.ref 38), some (.int (v1 + (1 : Int32))), some (.int v2)]) dX4_open_47 rfl (by decide) rfl ?_
        refine gr_iinc (lv' := [some (.ref 38), some (.int (v1 + (1 : Int32))), some (.int (v2 + (1 : Int32)))]) dX4_open_48 rfl gk_i_1 (by decide) rfl ?_
        refine gr_goto (tgt := 4) dX4_open_51 (by decide) ?_
        exact ih _ _ h
      · refine gr_aload_n dX4_open_24 rfl rfl ?_
        refine gr_iload_n dX4_open_25 rfl rfl ?_
        obtain ⟨x2, hx2, h⟩ := gn_bd h
        refine gc_VI (c_X4_namesOf hx2) my_X4_namesOf mv_X4_namesOf ob_38 ml_X4_134 rfl rfl ⟨Nat.le_of_ble_eq_true rfl, Nat.le_of_ble_eq_true rfl⟩ (Nat.le_of_ble_eq_true rfl) dX4_open_26 (fun fx2 => ?_)
        refine gr_aload_n dX4_open_29 rfl rfl ?_
        refine gr_bipush dX4_open_30 gk_b_8 ?_
        obtain ⟨x3, hx3, h⟩ := gn_bd h
        refine gc_VI (c_X4_now hx3) my_X4_now mv_X4_now ob_38 ml_X4_110 rfl rfl ⟨Nat.le_of_ble_eq_true rfl, Nat.le_of_ble_eq_true rfl⟩ (Nat.le_of_ble_eq_true rfl) dX4_open_32 (fun fx3 => ?_)
        obtain ⟨x4, hx4, h⟩ := gn_bd h
        refine gc_SI (c_X4_has hx4) my_X4_has ms_X4_has ml_X4_123 rfl rfl ⟨Nat.le_of_ble_eq_true rfl, Nat.le_of_ble_eq_true rfl⟩ (Nat.le_of_ble_eq_true rfl) dX4_open_35 (fun fx4 => ?_)
        refine gr_if_eq (tgt := 45) dX4_open_38 (by decide) h (fun _ h => ?_) (fun _ h => ?_)
        · refine gr_iconst dX4_open_45 gk_i_0 ?_
          refine gr_iadd dX4_open_46 ?_
          refine gr_istore_n (lv' := [some (.ref 38), some (.int (v1 + (0 : Int32))), some (.int v2)]) dX4_open_47 rfl (by decide) rfl ?_
          refine gr_iinc (lv' := [some (.ref 38), some (.int (v1 + (0 : Int32))), some (.int (v2 + (1 : Int32)))]) dX4_open_48 rfl gk_i_1 (by decide) rfl ?_
          refine gr_goto (tgt := 4) dX4_open_51 (by decide) ?_
          exact ih _ _ h
        · refine gr_iconst dX4_open_41 gk_i_1 ?_
          refine gr_goto (tgt := 46) dX4_open_42 (by decide) ?_
          refine gr_iadd dX4_open_46 ?_
          refine gr_istore_n (lv' := [some (.ref 38), some (.int (v1 + (1 : Int32))), some (.int v2)]) dX4_open_47 rfl (by decide) rfl ?_
          refine gr_iinc (lv' := [some (.ref 38), some (.int (v1 + (1 : Int32))), some (.int (v2 + (1 : Int32)))]) dX4_open_48 rfl gk_i_1 (by decide) rfl ?_
          refine gr_goto (tgt := 4) dX4_open_51 (by decide) ?_
          exact ih _ _ h
    · refine gn_wkn [true, true, false] rfl ?_
      exact hk _ h
def f_X4_open (n : Nat) (m : gn_M) : Option (Int32 × gn_M) := L_X4_open_4 n m (fun (e5 : Int32) => (f_X4_told m e5).bind (fun x6 => (f_X4_openTo n x6.2).bind (fun x7 => some (x7, x6.2)))) n (0 : Int32) (0 : Int32)
set_option maxRecDepth 100000 in
set_option maxHeartbeats 4000000 in
theorem c_X4_open {n : Nat} {m : gn_M} {v : Int32 × gn_M} (h : f_X4_open n m = some v) : gn_Cl yX4_open cX4_open 3 (some .int) 5 111 [.ref 38] m (some (.int v.1)) v.2 := by
  rw [f_X4_open] at h
  refine gn_met (lv := [some (.ref 38), none, none]) pl_X4 rfl rfl (Nat.le_of_ble_eq_true rfl) ?_
  refine gr_iconst dX4_open_0 gk_i_0 ?_
  refine gr_istore_n (lv' := [some (.ref 38), some (.int (0 : Int32)), none]) dX4_open_1 rfl (by decide) rfl ?_
  refine gr_iconst dX4_open_2 gk_i_0 ?_
  refine gr_istore_n (lv' := [some (.ref 38), some (.int (0 : Int32)), some (.int (0 : Int32))]) dX4_open_3 rfl (by decide) rfl ?_
  refine l_X4_open_4 (fun e5 h => ?_) _ _ _ h
  refine gr_aload_n dX4_open_54 rfl rfl ?_
  refine gr_iload_n dX4_open_55 rfl rfl ?_
  obtain ⟨x6, hx6, h⟩ := gn_bd h
  refine gc_VI (c_X4_told hx6) my_X4_told mv_X4_told ob_38 ml_X4_89 rfl rfl ⟨Nat.le_of_ble_eq_true rfl, Nat.le_of_ble_eq_true rfl⟩ (Nat.le_of_ble_eq_true rfl) dX4_open_56 (fun fx6 => ?_)
  refine gr_pop dX4_open_59 rfl ?_
  refine gr_aload_n dX4_open_60 rfl rfl ?_
  obtain ⟨x7, hx7, h⟩ := gn_bd h
  refine gc_VI (c_X4_openTo hx7) my_X4_openTo mv_X4_openTo ob_38 ml_X4_178 rfl rfl ⟨Nat.le_of_ble_eq_true rfl, Nat.le_of_ble_eq_true rfl⟩ (Nat.le_of_ble_eq_true rfl) dX4_open_61 (fun fx7 => ?_)
  exact gq_retIM dX4_open_64 rfl h
def L_X4_tellNames_2 (n : Nat) (k : gn_M → Option (gn_M)) : Nat → Int32 → gn_M → Option (gn_M)
  | 0, _, _ => none
  | f + 1, v1, m => (if v1 < (m.1 38 10) then (f_X4_namesOf n m v1).bind (fun x1 => gn_wr m 51 7 v1 x1 (fun m2 => L_X4_tellNames_2 n k f (v1 + (1 : Int32)) m2)) else k m)
set_option maxRecDepth 100000 in
set_option maxHeartbeats 4000000 in
theorem l_X4_tellNames_2 {n : Nat} {k : gn_M → Option (gn_M)} {v : gn_M} (hk : ∀ (m1 : gn_M), k m1 = some v → gn_Go RX4 cX4_tellNames 2 3 68 none none 27 [none, none] [] m1 none v) : ∀ (f : Nat) (v1 : Int32) (m : gn_M), L_X4_tellNames_2 n k f v1 m = some v → gn_Go RX4 cX4_tellNames 2 3 68 none none 2 [some (.ref 38), some (.int v1)] [] m none v := by
  intro f
  induction f with
  | zero =>
    intro v1 m h
    cases h
  | succ f ih =>
    intro v1 m h
    rw [L_X4_tellNames_2] at h
    refine gr_iload_n dX4_tellNames_2 rfl rfl ?_
    refine gr_aload_n dX4_tellNames_3 rfl rfl ?_
    refine gr_getI q_38_10 fl_X4_104 dX4_tellNames_4 ?_
    refine gr_icmp_ge (tgt := 27) dX4_tellNames_7 (by decide) h (fun _ h => ?_) (fun _ h => ?_)
    · refine gr_aload_n dX4_tellNames_10 rfl rfl ?_
      refine gr_getR q_38_19 fl_X4_51 dX4_tellNames_11 ?_
      refine gr_iload_n dX4_tellNames_14 rfl rfl ?_
      refine gr_aload_n dX4_tellNames_15 rfl rfl ?_
      refine gr_iload_n dX4_tellNames_16 rfl rfl ?_
      obtain ⟨x1, hx1, h⟩ := gn_bd h
      refine gc_VI (c_X4_namesOf hx1) my_X4_namesOf mv_X4_namesOf ob_38 ml_X4_134 rfl rfl ⟨Nat.le_of_ble_eq_true rfl, Nat.le_of_ble_eq_true rfl⟩ (Nat.le_of_ble_eq_true rfl) dX4_tellNames_17 (fun fx1 => ?_)
      refine gq_iastore s_51 dX4_tellNames_20 h (fun m2 h => ?_)
      refine gr_iinc (lv' := [some (.ref 38), some (.int (v1 + (1 : Int32)))]) dX4_tellNames_21 rfl gk_i_1 (by decide) rfl ?_
      refine gr_goto (tgt := 2) dX4_tellNames_24 (by decide) ?_
      exact ih _ _ h
    · refine gn_wkn [false, false] rfl ?_
      exact hk _ h
def f_X4_tellNames (n : Nat) (m : gn_M) : Option (gn_M) := L_X4_tellNames_2 n (fun (m3 : gn_M) => some m3) n (0 : Int32) m
set_option maxRecDepth 100000 in
set_option maxHeartbeats 4000000 in
theorem c_X4_tellNames {n : Nat} {m : gn_M} {v : gn_M} (h : f_X4_tellNames n m = some v) : gn_Cl yX4_tellNames cX4_tellNames 2 none 3 68 [.ref 38] m none v := by
  rw [f_X4_tellNames] at h
  refine gn_met (lv := [some (.ref 38), none]) pl_X4 rfl rfl (Nat.le_of_ble_eq_true rfl) ?_
  refine gr_iconst dX4_tellNames_0 gk_i_0 ?_
  refine gr_istore_n (lv' := [some (.ref 38), some (.int (0 : Int32))]) dX4_tellNames_1 rfl (by decide) rfl ?_
  refine l_X4_tellNames_2 (fun m3 h => ?_) _ _ _ h
  exact gq_retVM dX4_tellNames_27 trivial h
def f_X4_mayGo (m : gn_M) (p0 : Int32) (p1 : Int32) : Option (Int32) := (if p0 < (7 : Int32) then gn_rd m 51 7 p1 (fun x1 => (f_X4_has x1 p0).bind (fun x2 => some x2)) else (f_X4_now m (8 : Int32)).bind (fun x3 => (if x3 = (-9 : Int32) then some (1 : Int32) else gn_rd m 51 7 p1 (fun x4 => (f_X4_now m (8 : Int32)).bind (fun x5 => (f_X4_has x4 x5).bind (fun x6 => (if x6 = 0 then some (0 : Int32) else some (1 : Int32))))))))
set_option maxRecDepth 100000 in
set_option maxHeartbeats 4000000 in
theorem c_X4_mayGo {m : gn_M} {p0 : Int32} {p1 : Int32} {v : Int32} (h : f_X4_mayGo m p0 p1 = some v) : gn_Cl yX4_mayGo cX4_mayGo 3 (some .boolean) 1 21 [.ref 38, .int p0, .int p1] m (some (.int v)) m := by
  rw [f_X4_mayGo] at h
  refine gn_met (lv := [some (.ref 38), some (.int p0), some (.int p1)]) pl_X4 rfl rfl (Nat.le_of_ble_eq_true rfl) ?_
  refine gr_iload_n dX4_mayGo_0 rfl rfl ?_
  refine gr_bipush dX4_mayGo_1 gk_b_7 ?_
  refine gr_icmp_ge (tgt := 17) dX4_mayGo_3 (by decide) h (fun _ h => ?_) (fun _ h => ?_)
  · refine gr_aload_n dX4_mayGo_6 rfl rfl ?_
    refine gr_getR q_38_19 fl_X4_51 dX4_mayGo_7 ?_
    refine gr_iload_n dX4_mayGo_10 rfl rfl ?_
    refine gq_iaload s_51 dX4_mayGo_11 h (fun x1 h => ?_)
    refine gr_iload_n dX4_mayGo_12 rfl rfl ?_
    obtain ⟨x2, hx2, h⟩ := gn_bd h
    refine gc_SI (c_X4_has hx2) my_X4_has ms_X4_has ml_X4_123 rfl rfl ⟨Nat.le_of_ble_eq_true rfl, Nat.le_of_ble_eq_true rfl⟩ (Nat.le_of_ble_eq_true rfl) dX4_mayGo_13 (fun fx2 => ?_)
    exact gq_retI dX4_mayGo_16 fx2 h
  · refine gr_aload_n dX4_mayGo_17 rfl rfl ?_
    refine gr_bipush dX4_mayGo_18 gk_b_8 ?_
    obtain ⟨x3, hx3, h⟩ := gn_bd h
    refine gc_VI (c_X4_now hx3) my_X4_now mv_X4_now ob_38 ml_X4_110 rfl rfl ⟨Nat.le_of_ble_eq_true rfl, Nat.le_of_ble_eq_true rfl⟩ (Nat.le_of_ble_eq_true rfl) dX4_mayGo_20 (fun fx3 => ?_)
    refine gr_bipush dX4_mayGo_23 gk_b_m9 ?_
    refine gr_icmp_eq (tgt := 46) dX4_mayGo_25 (by decide) h (fun _ h => ?_) (fun _ h => ?_)
    · refine gr_iconst dX4_mayGo_46 gk_i_1 ?_
      refine gr_goto (tgt := 51) dX4_mayGo_47 (by decide) ?_
      exact gq_retI dX4_mayGo_51 rfl h
    · refine gr_aload_n dX4_mayGo_28 rfl rfl ?_
      refine gr_getR q_38_19 fl_X4_51 dX4_mayGo_29 ?_
      refine gr_iload_n dX4_mayGo_32 rfl rfl ?_
      refine gq_iaload s_51 dX4_mayGo_33 h (fun x4 h => ?_)
      refine gr_aload_n dX4_mayGo_34 rfl rfl ?_
      refine gr_bipush dX4_mayGo_35 gk_b_8 ?_
      obtain ⟨x5, hx5, h⟩ := gn_bd h
      refine gc_VI (c_X4_now hx5) my_X4_now mv_X4_now ob_38 ml_X4_110 rfl rfl ⟨Nat.le_of_ble_eq_true rfl, Nat.le_of_ble_eq_true rfl⟩ (Nat.le_of_ble_eq_true rfl) dX4_mayGo_37 (fun fx5 => ?_)
      obtain ⟨x6, hx6, h⟩ := gn_bd h
      refine gc_SI (c_X4_has hx6) my_X4_has ms_X4_has ml_X4_123 rfl rfl ⟨Nat.le_of_ble_eq_true rfl, Nat.le_of_ble_eq_true rfl⟩ (Nat.le_of_ble_eq_true rfl) dX4_mayGo_40 (fun fx6 => ?_)
      refine gr_if_eq (tgt := 50) dX4_mayGo_43 (by decide) h (fun _ h => ?_) (fun _ h => ?_)
      · refine gr_iconst dX4_mayGo_50 gk_i_0 ?_
        exact gq_retI dX4_mayGo_51 rfl h
      · refine gr_iconst dX4_mayGo_46 gk_i_1 ?_
        refine gr_goto (tgt := 51) dX4_mayGo_47 (by decide) ?_
        exact gq_retI dX4_mayGo_51 rfl h
def L_X4_tellMore_32 (n : Nat) (m : gn_M) (a1 : Int32) (a2 : Int32) (a3 : Int32) (k : Int32 → Option (gn_M)) : Nat → Int32 → Int32 → Option (gn_M)
  | 0, _, _ => none
  | f + 1, v4, v5 => (if v5 < (m.1 38 10) then (f_X4_has a1 v5).bind (fun x2 => (if x2 = 0 then L_X4_tellMore_32 n m a1 a2 a3 k f v4 (v5 + (1 : Int32)) else (f_X4_has a2 v5).bind (fun x3 => (if x3 = 0 then (f_X4_mayGo m a3 v5).bind (fun x4 => (if x4 = 0 then L_X4_tellMore_32 n m a1 a2 a3 k f v4 (v5 + (1 : Int32)) else gn_rd m 53 1024 (((8 : Int32) * (a2 ||| ((1 : Int32) <<< (v5 &&& 31)))) + v5) (fun x5 => (if v4 < ((1 : Int32) + x5) then L_X4_tellMore_32 n m a1 a2 a3 k f ((1 : Int32) + x5) (v5 + (1 : Int32)) else L_X4_tellMore_32 n m a1 a2 a3 k f v4 (v5 + (1 : Int32)))))) else L_X4_tellMore_32 n m a1 a2 a3 k f v4 (v5 + (1 : Int32)))))) else k v4)
set_option maxRecDepth 100000 in
set_option maxHeartbeats 4000000 in
theorem l_X4_tellMore_32 {n : Nat} {m : gn_M} {a1 : Int32} {a2 : Int32} {a3 : Int32} {k : Int32 → Option (gn_M)} {v : gn_M} (hk : ∀ (e4 : Int32), k e4 = some v → gn_Go RX4 cX4_tellMore 7 2 43 none none 112 [some (.ref 38), some (.int a1), some (.int a2), some (.int a3), some (.int e4), none, none] [] m none v) : ∀ (f : Nat) (v4 : Int32) (v5 : Int32), L_X4_tellMore_32 n m a1 a2 a3 k f v4 v5 = some v → gn_Go RX4 cX4_tellMore 7 2 43 none none 32 [some (.ref 38), some (.int a1), some (.int a2), some (.int a3), some (.int v4), some (.int v5), none] [] m none v := by
  intro f
  induction f with
  | zero =>
    intro v4 v5 h
    cases h
  | succ f ih =>
    intro v4 v5 h
    rw [L_X4_tellMore_32] at h
    refine gr_iload dX4_tellMore_32 rfl ?_
    refine gr_aload_n dX4_tellMore_34 rfl rfl ?_
    refine gr_getI q_38_10 fl_X4_104 dX4_tellMore_35 ?_
    refine gr_icmp_ge (tgt := 112) dX4_tellMore_38 (by decide) h (fun _ h => ?_) (fun _ h => ?_)
    · refine gr_iload_n dX4_tellMore_41 rfl rfl ?_
      refine gr_iload dX4_tellMore_42 rfl ?_
      obtain ⟨x2, hx2, h⟩ := gn_bd h
      refine gc_SI (c_X4_has hx2) my_X4_has ms_X4_has ml_X4_123 rfl rfl ⟨Nat.le_of_ble_eq_true rfl, Nat.le_of_ble_eq_true rfl⟩ (Nat.le_of_ble_eq_true rfl) dX4_tellMore_44 (fun fx2 => ?_)
      refine gr_if_eq (tgt := 106) dX4_tellMore_47 (by decide) h (fun _ h => ?_) (fun _ h => ?_)
      · refine gr_iinc (lv' := [some (.ref 38), some (.int a1), some (.int a2), some (.int a3), some (.int v4), some (.int (v5 + (1 : Int32))), none]) dX4_tellMore_106 rfl gk_i_1 (by decide) rfl ?_
        refine gr_goto (tgt := 32) dX4_tellMore_109 (by decide) ?_
        exact ih _ _ h
      · refine gr_iload_n dX4_tellMore_50 rfl rfl ?_
        refine gr_iload dX4_tellMore_51 rfl ?_
        obtain ⟨x3, hx3, h⟩ := gn_bd h
        refine gc_SI (c_X4_has hx3) my_X4_has ms_X4_has ml_X4_123 rfl rfl ⟨Nat.le_of_ble_eq_true rfl, Nat.le_of_ble_eq_true rfl⟩ (Nat.le_of_ble_eq_true rfl) dX4_tellMore_53 (fun fx3 => ?_)
        refine gr_if_ne (tgt := 106) dX4_tellMore_56 (by decide) h (fun _ h => ?_) (fun _ h => ?_)
        · refine gr_aload_n dX4_tellMore_59 rfl rfl ?_
          refine gr_iload_n dX4_tellMore_60 rfl rfl ?_
          refine gr_iload dX4_tellMore_61 rfl ?_
          obtain ⟨x4, hx4, h⟩ := gn_bd h
          refine gc_VI (c_X4_mayGo hx4) my_X4_mayGo mv_X4_mayGo ob_38 ml_X4_172 rfl rfl ⟨Nat.le_of_ble_eq_true rfl, Nat.le_of_ble_eq_true rfl⟩ (Nat.le_of_ble_eq_true rfl) dX4_tellMore_63 (fun fx4 => ?_)
          refine gr_if_eq (tgt := 106) dX4_tellMore_66 (by decide) h (fun _ h => ?_) (fun _ h => ?_)
          · refine gr_iinc (lv' := [some (.ref 38), some (.int a1), some (.int a2), some (.int a3), some (.int v4), some (.int (v5 + (1 : Int32))), none]) dX4_tellMore_106 rfl gk_i_1 (by decide) rfl ?_
            refine gr_goto (tgt := 32) dX4_tellMore_109 (by decide) ?_
            exact ih _ _ h
          · refine gr_iconst dX4_tellMore_69 gk_i_1 ?_
            refine gr_aload_n dX4_tellMore_70 rfl rfl ?_
            refine gr_getR q_38_21 fl_X4_57 dX4_tellMore_71 ?_
            refine gr_bipush dX4_tellMore_74 gk_b_8 ?_
            refine gr_iload_n dX4_tellMore_76 rfl rfl ?_
            refine gr_iconst dX4_tellMore_77 gk_i_1 ?_
            refine gr_iload dX4_tellMore_78 rfl ?_
            refine gr_ishl dX4_tellMore_80 ?_
            refine gr_ior dX4_tellMore_81 ?_
            refine gr_imul dX4_tellMore_82 ?_
            refine gr_iload dX4_tellMore_83 rfl ?_
            refine gr_iadd dX4_tellMore_85 ?_
            refine gq_iaload s_53 dX4_tellMore_86 h (fun x5 h => ?_)
            refine gr_iadd dX4_tellMore_87 ?_
            refine gr_istore (lv' := [some (.ref 38), some (.int a1), some (.int a2), some (.int a3), some (.int v4), some (.int v5), some (.int ((1 : Int32) + x5))]) dX4_tellMore_88 (by decide) rfl ?_
            refine gr_iload dX4_tellMore_90 rfl ?_
            refine gr_iload dX4_tellMore_92 rfl ?_
            refine gr_icmp_le (tgt := 102) dX4_tellMore_94 (by decide) h (fun _ h => ?_) (fun _ h => ?_)
            · refine gr_iload dX4_tellMore_97 rfl ?_
              refine gr_goto (tgt := 104) dX4_tellMore_99 (by decide) ?_
              refine gr_istore (lv' := [some (.ref 38), some (.int a1), some (.int a2), some (.int a3), some (.int ((1 : Int32) + x5)), some (.int v5), some (.int ((1 : Int32) + x5))]) dX4_tellMore_104 (by decide) rfl ?_
              refine gr_iinc (lv' := [some (.ref 38), some (.int a1), some (.int a2), some (.int a3), some (.int ((1 : Int32) + x5)), some (.int (v5 + (1 : Int32))), some (.int ((1 : Int32) + x5))]) dX4_tellMore_106 rfl gk_i_1 (by decide) rfl ?_
              refine gr_goto (tgt := 32) dX4_tellMore_109 (by decide) ?_
              refine gn_wkn [true, true, true, true, true, true, false] rfl ?_
              exact ih _ _ h
            · refine gr_iload dX4_tellMore_102 rfl ?_
              refine gr_istore (lv' := [some (.ref 38), some (.int a1), some (.int a2), some (.int a3), some (.int v4), some (.int v5), some (.int ((1 : Int32) + x5))]) dX4_tellMore_104 (by decide) rfl ?_
              refine gr_iinc (lv' := [some (.ref 38), some (.int a1), some (.int a2), some (.int a3), some (.int v4), some (.int (v5 + (1 : Int32))), some (.int ((1 : Int32) + x5))]) dX4_tellMore_106 rfl gk_i_1 (by decide) rfl ?_
              refine gr_goto (tgt := 32) dX4_tellMore_109 (by decide) ?_
              refine gn_wkn [true, true, true, true, true, true, false] rfl ?_
              exact ih _ _ h
        · refine gr_iinc (lv' := [some (.ref 38), some (.int a1), some (.int a2), some (.int a3), some (.int v4), some (.int (v5 + (1 : Int32))), none]) dX4_tellMore_106 rfl gk_i_1 (by decide) rfl ?_
          refine gr_goto (tgt := 32) dX4_tellMore_109 (by decide) ?_
          exact ih _ _ h
    · refine gn_wkn [true, true, true, true, true, false, false] rfl ?_
      exact hk _ h
def L_X4_tellMore_20 (n : Nat) (a1 : Int32) (a2 : Int32) (k : gn_M → Option (gn_M)) : Nat → Int32 → gn_M → Option (gn_M)
  | 0, _, _ => none
  | f + 1, v3, m => (if (7 : Int32) < v3 then k m else L_X4_tellMore_32 n m a1 a2 v3 (fun (e6 : Int32) => gn_wr m 53 1024 (((8 : Int32) * a2) + v3) e6 (fun m7 => L_X4_tellMore_20 n a1 a2 k f (v3 + (1 : Int32)) m7)) n (0 : Int32) (0 : Int32))
set_option maxRecDepth 100000 in
set_option maxHeartbeats 4000000 in
theorem l_X4_tellMore_20 {n : Nat} {a1 : Int32} {a2 : Int32} {k : gn_M → Option (gn_M)} {v : gn_M} (hk : ∀ (m1 : gn_M), k m1 = some v → gn_Go RX4 cX4_tellMore 7 2 43 none none 131 [some (.ref 38), some (.int a1), some (.int a2), none, none, none, none] [] m1 none v) : ∀ (f : Nat) (v3 : Int32) (m : gn_M), L_X4_tellMore_20 n a1 a2 k f v3 m = some v → gn_Go RX4 cX4_tellMore 7 2 43 none none 20 [some (.ref 38), some (.int a1), some (.int a2), some (.int v3), none, none, none] [] m none v := by
  intro f
  induction f with
  | zero =>
    intro v3 m h
    cases h
  | succ f ih =>
    intro v3 m h
    rw [L_X4_tellMore_20] at h
    refine gr_iload_n dX4_tellMore_20 rfl rfl ?_
    refine gr_bipush dX4_tellMore_21 gk_b_7 ?_
    refine gr_icmp_gt (tgt := 131) dX4_tellMore_23 (by decide) h (fun _ h => ?_) (fun _ h => ?_)
    · refine gn_wkn [true, true, true, false, false, false, false] rfl ?_
      exact hk _ h
    · refine gr_iconst dX4_tellMore_26 gk_i_0 ?_
      refine gr_istore (lv' := [some (.ref 38), some (.int a1), some (.int a2), some (.int v3), some (.int (0 : Int32)), none, none]) dX4_tellMore_27 (by decide) rfl ?_
      refine gr_iconst dX4_tellMore_29 gk_i_0 ?_
      refine gr_istore (lv' := [some (.ref 38), some (.int a1), some (.int a2), some (.int v3), some (.int (0 : Int32)), some (.int (0 : Int32)), none]) dX4_tellMore_30 (by decide) rfl ?_
      refine l_X4_tellMore_32 (fun e6 h => ?_) _ _ _ h
      refine gr_aload_n dX4_tellMore_112 rfl rfl ?_
      refine gr_getR q_38_21 fl_X4_57 dX4_tellMore_113 ?_
      refine gr_bipush dX4_tellMore_116 gk_b_8 ?_
      refine gr_iload_n dX4_tellMore_118 rfl rfl ?_
      refine gr_imul dX4_tellMore_119 ?_
      refine gr_iload_n dX4_tellMore_120 rfl rfl ?_
      refine gr_iadd dX4_tellMore_121 ?_
      refine gr_iload dX4_tellMore_122 rfl ?_
      refine gq_iastore s_53 dX4_tellMore_124 h (fun m7 h => ?_)
      refine gr_iinc (lv' := [some (.ref 38), some (.int a1), some (.int a2), some (.int (v3 + (1 : Int32))), some (.int e6), none, none]) dX4_tellMore_125 rfl gk_i_1 (by decide) rfl ?_
      refine gr_goto (tgt := 20) dX4_tellMore_128 (by decide) ?_
      refine gn_wkn [true, true, true, true, false, false, false] rfl ?_
      exact ih _ _ h
def L_X4_tellMore_14 (n : Nat) (a1 : Int32) (k : gn_M → Option (gn_M)) : Nat → Int32 → gn_M → Option (gn_M)
  | 0, _, _ => none
  | f + 1, v2, m => (if v2 < 0 then k m else L_X4_tellMore_20 n a1 v2 (fun (m8 : gn_M) => L_X4_tellMore_14 n a1 k f (v2 + (-1 : Int32)) m8) n (0 : Int32) m)
set_option maxRecDepth 100000 in
set_option maxHeartbeats 4000000 in
theorem l_X4_tellMore_14 {n : Nat} {a1 : Int32} {k : gn_M → Option (gn_M)} {v : gn_M} (hk : ∀ (m1 : gn_M), k m1 = some v → gn_Go RX4 cX4_tellMore 7 2 43 none none 137 [none, none, none, none, none, none, none] [] m1 none v) : ∀ (f : Nat) (v2 : Int32) (m : gn_M), L_X4_tellMore_14 n a1 k f v2 m = some v → gn_Go RX4 cX4_tellMore 7 2 43 none none 14 [some (.ref 38), some (.int a1), some (.int v2), none, none, none, none] [] m none v := by
  intro f
  induction f with
  | zero =>
    intro v2 m h
    cases h
  | succ f ih =>
    intro v2 m h
    rw [L_X4_tellMore_14] at h
    refine gr_iload_n dX4_tellMore_14 rfl rfl ?_
    refine gr_if_lt (tgt := 137) dX4_tellMore_15 (by decide) h (fun _ h => ?_) (fun _ h => ?_)
    · refine gn_wkn [false, false, false, false, false, false, false] rfl ?_
      exact hk _ h
    · refine gr_iconst dX4_tellMore_18 gk_i_0 ?_
      refine gr_istore_n (lv' := [some (.ref 38), some (.int a1), some (.int v2), some (.int (0 : Int32)), none, none, none]) dX4_tellMore_19 rfl (by decide) rfl ?_
      refine l_X4_tellMore_20 (fun m8 h => ?_) _ _ _ h
      refine gr_iinc (lv' := [some (.ref 38), some (.int a1), some (.int (v2 + (-1 : Int32))), none, none, none, none]) dX4_tellMore_131 rfl gk_i_m1 (by decide) rfl ?_
      refine gr_goto (tgt := 14) dX4_tellMore_134 (by decide) ?_
      exact ih _ _ h
def f_X4_tellMore (n : Nat) (m : gn_M) : Option (gn_M) := (f_X4_left m).bind (fun x1 => L_X4_tellMore_14 n x1 (fun (m9 : gn_M) => some m9) n (((1 : Int32) <<< ((m.1 38 10) &&& 31)) - (1 : Int32)) m)
set_option maxRecDepth 100000 in
set_option maxHeartbeats 4000000 in
theorem c_X4_tellMore {n : Nat} {m : gn_M} {v : gn_M} (h : f_X4_tellMore n m = some v) : gn_Cl yX4_tellMore cX4_tellMore 7 none 2 43 [.ref 38] m none v := by
  rw [f_X4_tellMore] at h
  refine gn_met (lv := [some (.ref 38), none, none, none, none, none, none]) pl_X4 rfl rfl (Nat.le_of_ble_eq_true rfl) ?_
  refine gr_aload_n dX4_tellMore_0 rfl rfl ?_
  obtain ⟨x1, hx1, h⟩ := gn_bd h
  refine gc_VI (c_X4_left hx1) my_X4_left mv_X4_left ob_38 ml_X4_149 rfl rfl ⟨Nat.le_of_ble_eq_true rfl, Nat.le_of_ble_eq_true rfl⟩ (Nat.le_of_ble_eq_true rfl) dX4_tellMore_1 (fun fx1 => ?_)
  refine gr_istore_n (lv' := [some (.ref 38), some (.int x1), none, none, none, none, none]) dX4_tellMore_4 rfl (by decide) rfl ?_
  refine gr_iconst dX4_tellMore_5 gk_i_1 ?_
  refine gr_aload_n dX4_tellMore_6 rfl rfl ?_
  refine gr_getI q_38_10 fl_X4_104 dX4_tellMore_7 ?_
  refine gr_ishl dX4_tellMore_10 ?_
  refine gr_iconst dX4_tellMore_11 gk_i_1 ?_
  refine gr_isub dX4_tellMore_12 ?_
  refine gr_istore_n (lv' := [some (.ref 38), some (.int x1), some (.int (((1 : Int32) <<< ((m.1 38 10) &&& 31)) - (1 : Int32))), none, none, none, none]) dX4_tellMore_13 rfl (by decide) rfl ?_
  refine l_X4_tellMore_14 (fun m9 h => ?_) _ _ _ h
  exact gq_retVM dX4_tellMore_137 trivial h
def L_X4_most_69 (n : Nat) (m : gn_M) (a1 : Int32) (a2 : Int32) (a3 : Int32) (a4 : Int32) (a5 : Int32) (k : Int32 → Option (Int32 × gn_M)) : Nat → Int32 → Int32 → Option (Int32 × gn_M)
  | 0, _, _ => none
  | f + 1, v6, v7 => (if v7 < 0 then k v6 else (f_X4_left m).bind (fun x6 => (f_X4_has x6 v7).bind (fun x7 => gn_jn (fun (j8 : Int32) => (if j8 = 0 then L_X4_most_69 n m a1 a2 a3 a4 a5 k f v6 (v7 + (-1 : Int32)) else gn_rd m 53 1024 (((8 : Int32) * (a3 ||| ((1 : Int32) <<< (v7 &&& 31)))) + v7) (fun x10 => (if ((1 : Int32) + x10) = (a2 - a5) then L_X4_most_69 n m a1 a2 a3 a4 a5 k f v7 (v7 + (-1 : Int32)) else L_X4_most_69 n m a1 a2 a3 a4 a5 k f v6 (v7 + (-1 : Int32)))))) (fun J9 => (if x7 = 0 then J9 (0 : Int32) else (f_X4_has a3 v7).bind (fun x11 => (if x11 = 0 then (f_X4_mayGo m a4 v7).bind (fun x12 => (if x12 = 0 then J9 (0 : Int32) else J9 (1 : Int32))) else J9 (0 : Int32))))))))
set_option maxRecDepth 100000 in
set_option maxHeartbeats 4000000 in
theorem l_X4_most_69 {n : Nat} {m : gn_M} {a1 : Int32} {a2 : Int32} {a3 : Int32} {a4 : Int32} {a5 : Int32} {k : Int32 → Option (Int32 × gn_M)} {v : Int32 × gn_M} (hk : ∀ (e6 : Int32), k e6 = some v → gn_Go RX4 cX4_most 9 4 89 (some .int) none 159 [some (.ref 38), some (.int a1), some (.int a2), some (.int a3), none, some (.int a5), some (.int e6), none, none] [] m (some (.int v.1)) v.2) : ∀ (f : Nat) (v6 : Int32) (v7 : Int32), L_X4_most_69 n m a1 a2 a3 a4 a5 k f v6 v7 = some v → gn_Go RX4 cX4_most 9 4 89 (some .int) none 69 [some (.ref 38), some (.int a1), some (.int a2), some (.int a3), some (.int a4), some (.int a5), some (.int v6), some (.int v7), none] [] m (some (.int v.1)) v.2 := by
  intro f
  induction f with
  | zero =>
    intro v6 v7 h
    cases h
  | succ f ih =>
    intro v6 v7 h
    rw [L_X4_most_69] at h
    refine gr_iload dX4_most_69 rfl ?_
    refine gr_if_lt (tgt := 159) dX4_most_71 (by decide) h (fun _ h => ?_) (fun _ h => ?_)
    · refine gn_wkn [true, true, true, true, false, true, true, false, false] rfl ?_
      exact hk _ h
    · refine gr_aload_n dX4_most_74 rfl rfl ?_
      obtain ⟨x6, hx6, h⟩ := gn_bd h
      refine gc_VI (c_X4_left hx6) my_X4_left mv_X4_left ob_38 ml_X4_149 rfl rfl ⟨Nat.le_of_ble_eq_true rfl, Nat.le_of_ble_eq_true rfl⟩ (Nat.le_of_ble_eq_true rfl) dX4_most_75 (fun fx6 => ?_)
      refine gr_iload dX4_most_78 rfl ?_
      obtain ⟨x7, hx7, h⟩ := gn_bd h
      refine gc_SI (c_X4_has hx7) my_X4_has ms_X4_has ml_X4_123 rfl rfl ⟨Nat.le_of_ble_eq_true rfl, Nat.le_of_ble_eq_true rfl⟩ (Nat.le_of_ble_eq_true rfl) dX4_most_80 (fun fx7 => ?_)
      refine gn_jnE (P := fun (j8 : Int32) => gn_Go RX4 cX4_most 9 4 89 (some .int) none 111 [some (.ref 38), some (.int a1), some (.int a2), some (.int a3), some (.int a4), some (.int a5), some (.int v6), some (.int v7), none] [.int j8] m (some (.int v.1)) v.2) h (fun j8 h => ?_) (fun J9 hJ9 h => ?_)
      · refine gr_istore (lv' := [some (.ref 38), some (.int a1), some (.int a2), some (.int a3), some (.int a4), some (.int a5), some (.int v6), some (.int v7), some (.int j8)]) dX4_most_111 (by decide) rfl ?_
        refine gr_iload dX4_most_113 rfl ?_
        refine gr_if_eq (tgt := 149) dX4_most_115 (by decide) h (fun _ h => ?_) (fun _ h => ?_)
        · refine gr_iload dX4_most_149 rfl ?_
          refine gr_istore (lv' := [some (.ref 38), some (.int a1), some (.int a2), some (.int a3), some (.int a4), some (.int a5), some (.int v6), some (.int v7), some (.int j8)]) dX4_most_151 (by decide) rfl ?_
          refine gr_iinc (lv' := [some (.ref 38), some (.int a1), some (.int a2), some (.int a3), some (.int a4), some (.int a5), some (.int v6), some (.int (v7 + (-1 : Int32))), some (.int j8)]) dX4_most_153 rfl gk_i_m1 (by decide) rfl ?_
          refine gr_goto (tgt := 69) dX4_most_156 (by decide) ?_
          refine gn_wkn [true, true, true, true, true, true, true, true, false] rfl ?_
          exact ih _ _ h
        · refine gr_iconst dX4_most_118 gk_i_1 ?_
          refine gr_aload_n dX4_most_119 rfl rfl ?_
          refine gr_getR q_38_21 fl_X4_57 dX4_most_120 ?_
          refine gr_bipush dX4_most_123 gk_b_8 ?_
          refine gr_iload_n dX4_most_125 rfl rfl ?_
          refine gr_iconst dX4_most_126 gk_i_1 ?_
          refine gr_iload dX4_most_127 rfl ?_
          refine gr_ishl dX4_most_129 ?_
          refine gr_ior dX4_most_130 ?_
          refine gr_imul dX4_most_131 ?_
          refine gr_iload dX4_most_132 rfl ?_
          refine gr_iadd dX4_most_134 ?_
          refine gq_iaload s_53 dX4_most_135 h (fun x10 h => ?_)
          refine gr_iadd dX4_most_136 ?_
          refine gr_iload_n dX4_most_137 rfl rfl ?_
          refine gr_iload dX4_most_138 rfl ?_
          refine gr_isub dX4_most_140 ?_
          refine gr_icmp_ne (tgt := 149) dX4_most_141 (by decide) h (fun _ h => ?_) (fun _ h => ?_)
          · refine gr_iload dX4_most_144 rfl ?_
            refine gr_goto (tgt := 151) dX4_most_146 (by decide) ?_
            refine gr_istore (lv' := [some (.ref 38), some (.int a1), some (.int a2), some (.int a3), some (.int a4), some (.int a5), some (.int v7), some (.int v7), some (.int j8)]) dX4_most_151 (by decide) rfl ?_
            refine gr_iinc (lv' := [some (.ref 38), some (.int a1), some (.int a2), some (.int a3), some (.int a4), some (.int a5), some (.int v7), some (.int (v7 + (-1 : Int32))), some (.int j8)]) dX4_most_153 rfl gk_i_m1 (by decide) rfl ?_
            refine gr_goto (tgt := 69) dX4_most_156 (by decide) ?_
            refine gn_wkn [true, true, true, true, true, true, true, true, false] rfl ?_
            exact ih _ _ h
          · refine gr_iload dX4_most_149 rfl ?_
            refine gr_istore (lv' := [some (.ref 38), some (.int a1), some (.int a2), some (.int a3), some (.int a4), some (.int a5), some (.int v6), some (.int v7), some (.int j8)]) dX4_most_151 (by decide) rfl ?_
            refine gr_iinc (lv' := [some (.ref 38), some (.int a1), some (.int a2), some (.int a3), some (.int a4), some (.int a5), some (.int v6), some (.int (v7 + (-1 : Int32))), some (.int j8)]) dX4_most_153 rfl gk_i_m1 (by decide) rfl ?_
            refine gr_goto (tgt := 69) dX4_most_156 (by decide) ?_
            refine gn_wkn [true, true, true, true, true, true, true, true, false] rfl ?_
            exact ih _ _ h
      · refine gr_if_eq (tgt := 110) dX4_most_83 (by decide) h (fun _ h => ?_) (fun _ h => ?_)
        · refine gr_iconst dX4_most_110 gk_i_0 ?_
          exact hJ9 (0 : Int32) h
        · refine gr_iload_n dX4_most_86 rfl rfl ?_
          refine gr_iload dX4_most_87 rfl ?_
          obtain ⟨x11, hx11, h⟩ := gn_bd h
          refine gc_SI (c_X4_has hx11) my_X4_has ms_X4_has ml_X4_123 rfl rfl ⟨Nat.le_of_ble_eq_true rfl, Nat.le_of_ble_eq_true rfl⟩ (Nat.le_of_ble_eq_true rfl) dX4_most_89 (fun fx11 => ?_)
          refine gr_if_ne (tgt := 110) dX4_most_92 (by decide) h (fun _ h => ?_) (fun _ h => ?_)
          · refine gr_aload_n dX4_most_95 rfl rfl ?_
            refine gr_iload dX4_most_96 rfl ?_
            refine gr_iload dX4_most_98 rfl ?_
            obtain ⟨x12, hx12, h⟩ := gn_bd h
            refine gc_VI (c_X4_mayGo hx12) my_X4_mayGo mv_X4_mayGo ob_38 ml_X4_172 rfl rfl ⟨Nat.le_of_ble_eq_true rfl, Nat.le_of_ble_eq_true rfl⟩ (Nat.le_of_ble_eq_true rfl) dX4_most_100 (fun fx12 => ?_)
            refine gr_if_eq (tgt := 110) dX4_most_103 (by decide) h (fun _ h => ?_) (fun _ h => ?_)
            · refine gr_iconst dX4_most_110 gk_i_0 ?_
              exact hJ9 (0 : Int32) h
            · refine gr_iconst dX4_most_106 gk_i_1 ?_
              refine gr_goto (tgt := 111) dX4_most_107 (by decide) ?_
              exact hJ9 (1 : Int32) h
          · refine gr_iconst dX4_most_110 gk_i_0 ?_
            exact hJ9 (0 : Int32) h
def L_X4_most_51 (n : Nat) (a1 : Int32) (a2 : Int32) (k : gn_M → Option (Int32 × gn_M)) : Nat → Int32 → Int32 → Int32 → gn_M → Option (Int32 × gn_M)
  | 0, _, _, _, _ => none
  | f + 1, v3, v4, v5, m => (if v5 < a2 then L_X4_most_69 n m a1 a2 v3 v4 v5 (fun (e13 : Int32) => gn_wr m 41 240 (((40 : Int32) * a1) + v5) e13 (fun m14 => L_X4_most_51 n a1 a2 k f (v3 ||| ((1 : Int32) <<< (e13 &&& 31))) e13 (v5 + (1 : Int32)) m14)) n (-9 : Int32) ((m.1 38 10) - (1 : Int32)) else k m)
set_option maxRecDepth 100000 in
set_option maxHeartbeats 4000000 in
theorem l_X4_most_51 {n : Nat} {a1 : Int32} {a2 : Int32} {k : gn_M → Option (Int32 × gn_M)} {v : Int32 × gn_M} (hk : ∀ (m1 : gn_M), k m1 = some v → gn_Go RX4 cX4_most 9 4 89 (some .int) none 190 [none, none, some (.int a2), none, none, none, none, none, none] [] m1 (some (.int v.1)) v.2) : ∀ (f : Nat) (v3 : Int32) (v4 : Int32) (v5 : Int32) (m : gn_M), L_X4_most_51 n a1 a2 k f v3 v4 v5 m = some v → gn_Go RX4 cX4_most 9 4 89 (some .int) none 51 [some (.ref 38), some (.int a1), some (.int a2), some (.int v3), some (.int v4), some (.int v5), none, none, none] [] m (some (.int v.1)) v.2 := by
  intro f
  induction f with
  | zero =>
    intro v3 v4 v5 m h
    cases h
  | succ f ih =>
    intro v3 v4 v5 m h
    rw [L_X4_most_51] at h
    refine gr_iload dX4_most_51 rfl ?_
    refine gr_iload_n dX4_most_53 rfl rfl ?_
    refine gr_icmp_ge (tgt := 190) dX4_most_54 (by decide) h (fun _ h => ?_) (fun _ h => ?_)
    · refine gr_bipush dX4_most_57 gk_b_m9 ?_
      refine gr_istore (lv' := [some (.ref 38), some (.int a1), some (.int a2), some (.int v3), some (.int v4), some (.int v5), some (.int (-9 : Int32)), none, none]) dX4_most_59 (by decide) rfl ?_
      refine gr_aload_n dX4_most_61 rfl rfl ?_
      refine gr_getI q_38_10 fl_X4_104 dX4_most_62 ?_
      refine gr_iconst dX4_most_65 gk_i_1 ?_
      refine gr_isub dX4_most_66 ?_
      refine gr_istore (lv' := [some (.ref 38), some (.int a1), some (.int a2), some (.int v3), some (.int v4), some (.int v5), some (.int (-9 : Int32)), some (.int ((m.1 38 10) - (1 : Int32))), none]) dX4_most_67 (by decide) rfl ?_
      refine l_X4_most_69 (fun e13 h => ?_) _ _ _ h
      refine gr_aload_n dX4_most_159 rfl rfl ?_
      refine gr_getR q_38_6 fl_X4_20 dX4_most_160 ?_
      refine gr_bipush dX4_most_163 gk_b_40 ?_
      refine gr_iload_n dX4_most_165 rfl rfl ?_
      refine gr_imul dX4_most_166 ?_
      refine gr_iload dX4_most_167 rfl ?_
      refine gr_iadd dX4_most_169 ?_
      refine gr_iload dX4_most_170 rfl ?_
      refine gq_iastore s_41 dX4_most_172 h (fun m14 h => ?_)
      refine gr_iload_n dX4_most_173 rfl rfl ?_
      refine gr_iconst dX4_most_174 gk_i_1 ?_
      refine gr_iload dX4_most_175 rfl ?_
      refine gr_ishl dX4_most_177 ?_
      refine gr_ior dX4_most_178 ?_
      refine gr_istore_n (lv' := [some (.ref 38), some (.int a1), some (.int a2), some (.int (v3 ||| ((1 : Int32) <<< (e13 &&& 31)))), none, some (.int v5), some (.int e13), none, none]) dX4_most_179 rfl (by decide) rfl ?_
      refine gr_iload dX4_most_180 rfl ?_
      refine gr_istore (lv' := [some (.ref 38), some (.int a1), some (.int a2), some (.int (v3 ||| ((1 : Int32) <<< (e13 &&& 31)))), some (.int e13), some (.int v5), some (.int e13), none, none]) dX4_most_182 (by decide) rfl ?_
      refine gr_iinc (lv' := [some (.ref 38), some (.int a1), some (.int a2), some (.int (v3 ||| ((1 : Int32) <<< (e13 &&& 31)))), some (.int e13), some (.int (v5 + (1 : Int32))), some (.int e13), none, none]) dX4_most_184 rfl gk_i_1 (by decide) rfl ?_
      refine gr_goto (tgt := 51) dX4_most_187 (by decide) ?_
      refine gn_wkn [true, true, true, true, true, true, false, false, false] rfl ?_
      exact ih _ _ _ _ h
    · refine gn_wkn [false, false, true, false, false, false, false, false, false] rfl ?_
      exact hk _ h
def f_X4_most (n : Nat) (m : gn_M) (p0 : Int32) : Option (Int32 × gn_M) := (f_X4_isRow p0).bind (fun x1 => (if x1 = 0 then some ((-1 : Int32), m) else (if (m.1 38 10) = 0 then some ((-4 : Int32), m) else (f_X4_tellNames n m).bind (fun x2 => (f_X4_tellMore n x2).bind (fun x3 => gn_rd x3 53 1024 (7 : Int32) (fun x4 => (f_X4_row n x3 p0 x4).bind (fun x5 => L_X4_most_51 n p0 x4 (fun (m15 : gn_M) => some (x4, m15)) n (0 : Int32) (7 : Int32) (0 : Int32) x5.2)))))))
set_option maxRecDepth 100000 in
set_option maxHeartbeats 4000000 in
theorem c_X4_most {n : Nat} {m : gn_M} {p0 : Int32} {v : Int32 × gn_M} (h : f_X4_most n m p0 = some v) : gn_Cl yX4_most cX4_most 9 (some .int) 4 89 [.ref 38, .int p0] m (some (.int v.1)) v.2 := by
  rw [f_X4_most] at h
  refine gn_met (lv := [some (.ref 38), some (.int p0), none, none, none, none, none, none, none]) pl_X4 rfl rfl (Nat.le_of_ble_eq_true rfl) ?_
  refine gr_iload_n dX4_most_0 rfl rfl ?_
  obtain ⟨x1, hx1, h⟩ := gn_bd h
  refine gc_SI (c_X4_isRow hx1) my_X4_isRow ms_X4_isRow ml_X4_81 rfl rfl ⟨Nat.le_of_ble_eq_true rfl, Nat.le_of_ble_eq_true rfl⟩ (Nat.le_of_ble_eq_true rfl) dX4_most_1 (fun fx1 => ?_)
  refine gr_if_ne (tgt := 9) dX4_most_4 (by decide) h (fun _ h => ?_) (fun _ h => ?_)
  · refine gr_iconst dX4_most_7 gk_i_m1 ?_
    exact gq_retIM dX4_most_8 rfl h
  · refine gr_aload_n dX4_most_9 rfl rfl ?_
    refine gr_getI q_38_10 fl_X4_104 dX4_most_10 ?_
    refine gr_if_ne (tgt := 19) dX4_most_13 (by decide) h (fun _ h => ?_) (fun _ h => ?_)
    · refine gr_bipush dX4_most_16 gk_b_m4 ?_
      exact gq_retIM dX4_most_18 rfl h
    · refine gr_aload_n dX4_most_19 rfl rfl ?_
      obtain ⟨x2, hx2, h⟩ := gn_bd h
      refine gc_V0 (c_X4_tellNames hx2) my_X4_tellNames mv_X4_tellNames ob_38 ml_X4_181 rfl rfl ⟨Nat.le_of_ble_eq_true rfl, Nat.le_of_ble_eq_true rfl⟩ (Nat.le_of_ble_eq_true rfl) dX4_most_20 (fun fx2 => ?_)
      refine gr_aload_n dX4_most_23 rfl rfl ?_
      obtain ⟨x3, hx3, h⟩ := gn_bd h
      refine gc_V0 (c_X4_tellMore hx3) my_X4_tellMore mv_X4_tellMore ob_38 ml_X4_184 rfl rfl ⟨Nat.le_of_ble_eq_true rfl, Nat.le_of_ble_eq_true rfl⟩ (Nat.le_of_ble_eq_true rfl) dX4_most_24 (fun fx3 => ?_)
      refine gr_aload_n dX4_most_27 rfl rfl ?_
      refine gr_getR q_38_21 fl_X4_57 dX4_most_28 ?_
      refine gr_bipush dX4_most_31 gk_b_7 ?_
      refine gq_iaload s_53 dX4_most_33 h (fun x4 h => ?_)
      refine gr_istore_n (lv' := [some (.ref 38), some (.int p0), some (.int x4), none, none, none, none, none, none]) dX4_most_34 rfl (by decide) rfl ?_
      refine gr_aload_n dX4_most_35 rfl rfl ?_
      refine gr_iload_n dX4_most_36 rfl rfl ?_
      refine gr_iload_n dX4_most_37 rfl rfl ?_
      obtain ⟨x5, hx5, h⟩ := gn_bd h
      refine gc_VI (c_X4_row hx5) my_X4_row mv_X4_row ob_38 ml_X4_187 rfl rfl ⟨Nat.le_of_ble_eq_true rfl, Nat.le_of_ble_eq_true rfl⟩ (Nat.le_of_ble_eq_true rfl) dX4_most_38 (fun fx5 => ?_)
      refine gr_pop dX4_most_41 rfl ?_
      refine gr_iconst dX4_most_42 gk_i_0 ?_
      refine gr_istore_n (lv' := [some (.ref 38), some (.int p0), some (.int x4), some (.int (0 : Int32)), none, none, none, none, none]) dX4_most_43 rfl (by decide) rfl ?_
      refine gr_bipush dX4_most_44 gk_b_7 ?_
      refine gr_istore (lv' := [some (.ref 38), some (.int p0), some (.int x4), some (.int (0 : Int32)), some (.int (7 : Int32)), none, none, none, none]) dX4_most_46 (by decide) rfl ?_
      refine gr_iconst dX4_most_48 gk_i_0 ?_
      refine gr_istore (lv' := [some (.ref 38), some (.int p0), some (.int x4), some (.int (0 : Int32)), some (.int (7 : Int32)), some (.int (0 : Int32)), none, none, none]) dX4_most_49 (by decide) rfl ?_
      refine l_X4_most_51 (fun m15 h => ?_) _ _ _ _ _ h
      refine gr_iload_n dX4_most_190 rfl rfl ?_
      exact gq_retIM dX4_most_191 rfl h
def L_X4_tellWays_7 (n : Nat) (a1 : Int32) (k : gn_M → Option (gn_M)) : Nat → Int32 → gn_M → Option (gn_M)
  | 0, _, _ => none
  | f + 1, v2, m => (if v2 < (896 : Int32) then gn_wr m 52 896 v2 (0 : Int32) (fun m2 => L_X4_tellWays_7 n a1 k f (v2 + (1 : Int32)) m2) else k m)
set_option maxRecDepth 100000 in
set_option maxHeartbeats 4000000 in
theorem l_X4_tellWays_7 {n : Nat} {a1 : Int32} {k : gn_M → Option (gn_M)} {v : gn_M} (hk : ∀ (m1 : gn_M), k m1 = some v → gn_Go RX4 cX4_tellWays 6 2 43 none none 27 [some (.ref 38), some (.int a1), none, none, none, none] [] m1 none v) : ∀ (f : Nat) (v2 : Int32) (m : gn_M), L_X4_tellWays_7 n a1 k f v2 m = some v → gn_Go RX4 cX4_tellWays 6 2 43 none none 7 [some (.ref 38), some (.int a1), some (.int v2), none, none, none] [] m none v := by
  intro f
  induction f with
  | zero =>
    intro v2 m h
    cases h
  | succ f ih =>
    intro v2 m h
    rw [L_X4_tellWays_7] at h
    refine gr_iload_n dX4_tellWays_7 rfl rfl ?_
    refine gr_sipush dX4_tellWays_8 gk_s_896 ?_
    refine gr_icmp_ge (tgt := 27) dX4_tellWays_11 (by decide) h (fun _ h => ?_) (fun _ h => ?_)
    · refine gr_aload_n dX4_tellWays_14 rfl rfl ?_
      refine gr_getR q_38_20 fl_X4_54 dX4_tellWays_15 ?_
      refine gr_iload_n dX4_tellWays_18 rfl rfl ?_
      refine gr_iconst dX4_tellWays_19 gk_i_0 ?_
      refine gq_iastore s_52 dX4_tellWays_20 h (fun m2 h => ?_)
      refine gr_iinc (lv' := [some (.ref 38), some (.int a1), some (.int (v2 + (1 : Int32))), none, none, none]) dX4_tellWays_21 rfl gk_i_1 (by decide) rfl ?_
      refine gr_goto (tgt := 7) dX4_tellWays_24 (by decide) ?_
      exact ih _ _ h
    · refine gn_wkn [true, true, false, false, false, false] rfl ?_
      exact hk _ h
def L_X4_tellWays_29 (n : Nat) (a1 : Int32) (k : gn_M → Option (gn_M)) : Nat → Int32 → gn_M → Option (gn_M)
  | 0, _, _ => none
  | f + 1, v2, m => (if v2 < (m.1 38 10) then (f_X4_has a1 v2).bind (fun x4 => (if x4 = 0 then gn_wr m 52 896 (((7 : Int32) * ((1 : Int32) <<< (v2 &&& 31))) + v2) (0 : Int32) (fun m5 => L_X4_tellWays_29 n a1 k f (v2 + (1 : Int32)) m5) else (f_X4_mayGo m (7 : Int32) v2).bind (fun x6 => (if x6 = 0 then gn_wr m 52 896 (((7 : Int32) * ((1 : Int32) <<< (v2 &&& 31))) + v2) (0 : Int32) (fun m7 => L_X4_tellWays_29 n a1 k f (v2 + (1 : Int32)) m7) else gn_wr m 52 896 (((7 : Int32) * ((1 : Int32) <<< (v2 &&& 31))) + v2) (1 : Int32) (fun m8 => L_X4_tellWays_29 n a1 k f (v2 + (1 : Int32)) m8))))) else k m)
set_option maxRecDepth 100000 in
set_option maxHeartbeats 4000000 in
theorem l_X4_tellWays_29 {n : Nat} {a1 : Int32} {k : gn_M → Option (gn_M)} {v : gn_M} (hk : ∀ (m1 : gn_M), k m1 = some v → gn_Go RX4 cX4_tellWays 6 2 43 none none 79 [some (.ref 38), some (.int a1), none, none, none, none] [] m1 none v) : ∀ (f : Nat) (v2 : Int32) (m : gn_M), L_X4_tellWays_29 n a1 k f v2 m = some v → gn_Go RX4 cX4_tellWays 6 2 43 none none 29 [some (.ref 38), some (.int a1), some (.int v2), none, none, none] [] m none v := by
  intro f
  induction f with
  | zero =>
    intro v2 m h
    cases h
  | succ f ih =>
    intro v2 m h
    rw [L_X4_tellWays_29] at h
    refine gr_iload_n dX4_tellWays_29 rfl rfl ?_
    refine gr_aload_n dX4_tellWays_30 rfl rfl ?_
    refine gr_getI q_38_10 fl_X4_104 dX4_tellWays_31 ?_
    refine gr_icmp_ge (tgt := 79) dX4_tellWays_34 (by decide) h (fun _ h => ?_) (fun _ h => ?_)
    · refine gr_aload_n dX4_tellWays_37 rfl rfl ?_
      refine gr_getR q_38_20 fl_X4_54 dX4_tellWays_38 ?_
      refine gr_bipush dX4_tellWays_41 gk_b_7 ?_
      refine gr_iconst dX4_tellWays_43 gk_i_1 ?_
      refine gr_iload_n dX4_tellWays_44 rfl rfl ?_
      refine gr_ishl dX4_tellWays_45 ?_
      refine gr_imul dX4_tellWays_46 ?_
      refine gr_iload_n dX4_tellWays_47 rfl rfl ?_
      refine gr_iadd dX4_tellWays_48 ?_
      refine gr_iload_n dX4_tellWays_49 rfl rfl ?_
      refine gr_iload_n dX4_tellWays_50 rfl rfl ?_
      obtain ⟨x4, hx4, h⟩ := gn_bd h
      refine gc_SI (c_X4_has hx4) my_X4_has ms_X4_has ml_X4_123 rfl rfl ⟨Nat.le_of_ble_eq_true rfl, Nat.le_of_ble_eq_true rfl⟩ (Nat.le_of_ble_eq_true rfl) dX4_tellWays_51 (fun fx4 => ?_)
      refine gr_if_eq (tgt := 71) dX4_tellWays_54 (by decide) h (fun _ h => ?_) (fun _ h => ?_)
      · refine gr_iconst dX4_tellWays_71 gk_i_0 ?_
        refine gq_iastore s_52 dX4_tellWays_72 h (fun m5 h => ?_)
        refine gr_iinc (lv' := [some (.ref 38), some (.int a1), some (.int (v2 + (1 : Int32))), none, none, none]) dX4_tellWays_73 rfl gk_i_1 (by decide) rfl ?_
        refine gr_goto (tgt := 29) dX4_tellWays_76 (by decide) ?_
        exact ih _ _ h
      · refine gr_aload_n dX4_tellWays_57 rfl rfl ?_
        refine gr_bipush dX4_tellWays_58 gk_b_7 ?_
        refine gr_iload_n dX4_tellWays_60 rfl rfl ?_
        obtain ⟨x6, hx6, h⟩ := gn_bd h
        refine gc_VI (c_X4_mayGo hx6) my_X4_mayGo mv_X4_mayGo ob_38 ml_X4_172 rfl rfl ⟨Nat.le_of_ble_eq_true rfl, Nat.le_of_ble_eq_true rfl⟩ (Nat.le_of_ble_eq_true rfl) dX4_tellWays_61 (fun fx6 => ?_)
        refine gr_if_eq (tgt := 71) dX4_tellWays_64 (by decide) h (fun _ h => ?_) (fun _ h => ?_)
        · refine gr_iconst dX4_tellWays_71 gk_i_0 ?_
          refine gq_iastore s_52 dX4_tellWays_72 h (fun m7 h => ?_)
          refine gr_iinc (lv' := [some (.ref 38), some (.int a1), some (.int (v2 + (1 : Int32))), none, none, none]) dX4_tellWays_73 rfl gk_i_1 (by decide) rfl ?_
          refine gr_goto (tgt := 29) dX4_tellWays_76 (by decide) ?_
          exact ih _ _ h
        · refine gr_iconst dX4_tellWays_67 gk_i_1 ?_
          refine gr_goto (tgt := 72) dX4_tellWays_68 (by decide) ?_
          refine gq_iastore s_52 dX4_tellWays_72 h (fun m8 h => ?_)
          refine gr_iinc (lv' := [some (.ref 38), some (.int a1), some (.int (v2 + (1 : Int32))), none, none, none]) dX4_tellWays_73 rfl gk_i_1 (by decide) rfl ?_
          refine gr_goto (tgt := 29) dX4_tellWays_76 (by decide) ?_
          exact ih _ _ h
    · refine gn_wkn [true, true, false, false, false, false] rfl ?_
      exact hk _ h
def L_X4_tellWays_117 (n : Nat) (a1 : Int32) (a2 : Int32) (a3 : Int32) (a4 : Int32) (k : gn_M → Option (gn_M)) : Nat → Int32 → gn_M → Option (gn_M)
  | 0, _, _ => none
  | f + 1, v5, m => (if v5 < (m.1 38 10) then (if 0 < a4 then (f_X4_has a1 v5).bind (fun x11 => (if x11 = 0 then L_X4_tellWays_117 n a1 a2 a3 a4 k f (v5 + (1 : Int32)) m else (f_X4_has a2 v5).bind (fun x12 => (if x12 = 0 then (f_X4_mayGo m a3 v5).bind (fun x13 => (if x13 = 0 then L_X4_tellWays_117 n a1 a2 a3 a4 k f (v5 + (1 : Int32)) m else gn_rd m 52 896 (((7 : Int32) * (a2 ||| ((1 : Int32) <<< (v5 &&& 31)))) + v5) (fun x14 => gn_wr m 52 896 (((7 : Int32) * (a2 ||| ((1 : Int32) <<< (v5 &&& 31)))) + v5) (x14 + a4) (fun m15 => L_X4_tellWays_117 n a1 a2 a3 a4 k f (v5 + (1 : Int32)) m15)))) else L_X4_tellWays_117 n a1 a2 a3 a4 k f (v5 + (1 : Int32)) m)))) else k m) else k m)
set_option maxRecDepth 100000 in
set_option maxHeartbeats 4000000 in
theorem l_X4_tellWays_117 {n : Nat} {a1 : Int32} {a2 : Int32} {a3 : Int32} {a4 : Int32} {k : gn_M → Option (gn_M)} {v : gn_M} (hk : ∀ (m1 : gn_M), k m1 = some v → gn_Go RX4 cX4_tellWays 6 2 43 none none 187 [some (.ref 38), some (.int a1), some (.int a2), some (.int a3), none, none] [] m1 none v) : ∀ (f : Nat) (v5 : Int32) (m : gn_M), L_X4_tellWays_117 n a1 a2 a3 a4 k f v5 m = some v → gn_Go RX4 cX4_tellWays 6 2 43 none none 117 [some (.ref 38), some (.int a1), some (.int a2), some (.int a3), some (.int a4), some (.int v5)] [] m none v := by
  intro f
  induction f with
  | zero =>
    intro v5 m h
    cases h
  | succ f ih =>
    intro v5 m h
    rw [L_X4_tellWays_117] at h
    refine gr_iload dX4_tellWays_117 rfl ?_
    refine gr_aload_n dX4_tellWays_119 rfl rfl ?_
    refine gr_getI q_38_10 fl_X4_104 dX4_tellWays_120 ?_
    refine gr_icmp_ge (tgt := 187) dX4_tellWays_123 (by decide) h (fun _ h => ?_) (fun _ h => ?_)
    · refine gr_iload dX4_tellWays_126 rfl ?_
      refine gr_if_le (tgt := 187) dX4_tellWays_128 (by decide) h (fun _ h => ?_) (fun _ h => ?_)
      · refine gr_iload_n dX4_tellWays_131 rfl rfl ?_
        refine gr_iload dX4_tellWays_132 rfl ?_
        obtain ⟨x11, hx11, h⟩ := gn_bd h
        refine gc_SI (c_X4_has hx11) my_X4_has ms_X4_has ml_X4_123 rfl rfl ⟨Nat.le_of_ble_eq_true rfl, Nat.le_of_ble_eq_true rfl⟩ (Nat.le_of_ble_eq_true rfl) dX4_tellWays_134 (fun fx11 => ?_)
        refine gr_if_eq (tgt := 181) dX4_tellWays_137 (by decide) h (fun _ h => ?_) (fun _ h => ?_)
        · refine gr_iinc (lv' := [some (.ref 38), some (.int a1), some (.int a2), some (.int a3), some (.int a4), some (.int (v5 + (1 : Int32)))]) dX4_tellWays_181 rfl gk_i_1 (by decide) rfl ?_
          refine gr_goto (tgt := 117) dX4_tellWays_184 (by decide) ?_
          exact ih _ _ h
        · refine gr_iload_n dX4_tellWays_140 rfl rfl ?_
          refine gr_iload dX4_tellWays_141 rfl ?_
          obtain ⟨x12, hx12, h⟩ := gn_bd h
          refine gc_SI (c_X4_has hx12) my_X4_has ms_X4_has ml_X4_123 rfl rfl ⟨Nat.le_of_ble_eq_true rfl, Nat.le_of_ble_eq_true rfl⟩ (Nat.le_of_ble_eq_true rfl) dX4_tellWays_143 (fun fx12 => ?_)
          refine gr_if_ne (tgt := 181) dX4_tellWays_146 (by decide) h (fun _ h => ?_) (fun _ h => ?_)
          · refine gr_aload_n dX4_tellWays_149 rfl rfl ?_
            refine gr_iload_n dX4_tellWays_150 rfl rfl ?_
            refine gr_iload dX4_tellWays_151 rfl ?_
            obtain ⟨x13, hx13, h⟩ := gn_bd h
            refine gc_VI (c_X4_mayGo hx13) my_X4_mayGo mv_X4_mayGo ob_38 ml_X4_172 rfl rfl ⟨Nat.le_of_ble_eq_true rfl, Nat.le_of_ble_eq_true rfl⟩ (Nat.le_of_ble_eq_true rfl) dX4_tellWays_153 (fun fx13 => ?_)
            refine gr_if_eq (tgt := 181) dX4_tellWays_156 (by decide) h (fun _ h => ?_) (fun _ h => ?_)
            · refine gr_iinc (lv' := [some (.ref 38), some (.int a1), some (.int a2), some (.int a3), some (.int a4), some (.int (v5 + (1 : Int32)))]) dX4_tellWays_181 rfl gk_i_1 (by decide) rfl ?_
              refine gr_goto (tgt := 117) dX4_tellWays_184 (by decide) ?_
              exact ih _ _ h
            · refine gr_aload_n dX4_tellWays_159 rfl rfl ?_
              refine gr_getR q_38_20 fl_X4_54 dX4_tellWays_160 ?_
              refine gr_bipush dX4_tellWays_163 gk_b_7 ?_
              refine gr_iload_n dX4_tellWays_165 rfl rfl ?_
              refine gr_iconst dX4_tellWays_166 gk_i_1 ?_
              refine gr_iload dX4_tellWays_167 rfl ?_
              refine gr_ishl dX4_tellWays_169 ?_
              refine gr_ior dX4_tellWays_170 ?_
              refine gr_imul dX4_tellWays_171 ?_
              refine gr_iload dX4_tellWays_172 rfl ?_
              refine gr_iadd dX4_tellWays_174 ?_
              refine gr_dup2 dX4_tellWays_175 rfl rfl ?_
              refine gq_iaload s_52 dX4_tellWays_176 h (fun x14 h => ?_)
              refine gr_iload dX4_tellWays_177 rfl ?_
              refine gr_iadd dX4_tellWays_179 ?_
              refine gq_iastore s_52 dX4_tellWays_180 h (fun m15 h => ?_)
              refine gr_iinc (lv' := [some (.ref 38), some (.int a1), some (.int a2), some (.int a3), some (.int a4), some (.int (v5 + (1 : Int32)))]) dX4_tellWays_181 rfl gk_i_1 (by decide) rfl ?_
              refine gr_goto (tgt := 117) dX4_tellWays_184 (by decide) ?_
              exact ih _ _ h
          · refine gr_iinc (lv' := [some (.ref 38), some (.int a1), some (.int a2), some (.int a3), some (.int a4), some (.int (v5 + (1 : Int32)))]) dX4_tellWays_181 rfl gk_i_1 (by decide) rfl ?_
            refine gr_goto (tgt := 117) dX4_tellWays_184 (by decide) ?_
            exact ih _ _ h
      · refine gn_wkn [true, true, true, true, false, false] rfl ?_
        exact hk _ h
    · refine gn_wkn [true, true, true, true, false, false] rfl ?_
      exact hk _ h
def L_X4_tellWays_93 (n : Nat) (a1 : Int32) (a2 : Int32) (k : gn_M → Option (gn_M)) : Nat → Int32 → gn_M → Option (gn_M)
  | 0, _, _ => none
  | f + 1, v3, m => (if v3 < (m.1 38 10) then gn_rd m 52 896 (((7 : Int32) * a2) + v3) (fun x10 => L_X4_tellWays_117 n a1 a2 v3 x10 (fun (m16 : gn_M) => L_X4_tellWays_93 n a1 a2 k f (v3 + (1 : Int32)) m16) n (0 : Int32) m) else k m)
set_option maxRecDepth 100000 in
set_option maxHeartbeats 4000000 in
theorem l_X4_tellWays_93 {n : Nat} {a1 : Int32} {a2 : Int32} {k : gn_M → Option (gn_M)} {v : gn_M} (hk : ∀ (m1 : gn_M), k m1 = some v → gn_Go RX4 cX4_tellWays 6 2 43 none none 193 [some (.ref 38), some (.int a1), some (.int a2), none, none, none] [] m1 none v) : ∀ (f : Nat) (v3 : Int32) (m : gn_M), L_X4_tellWays_93 n a1 a2 k f v3 m = some v → gn_Go RX4 cX4_tellWays 6 2 43 none none 93 [some (.ref 38), some (.int a1), some (.int a2), some (.int v3), none, none] [] m none v := by
  intro f
  induction f with
  | zero =>
    intro v3 m h
    cases h
  | succ f ih =>
    intro v3 m h
    rw [L_X4_tellWays_93] at h
    refine gr_iload_n dX4_tellWays_93 rfl rfl ?_
    refine gr_aload_n dX4_tellWays_94 rfl rfl ?_
    refine gr_getI q_38_10 fl_X4_104 dX4_tellWays_95 ?_
    refine gr_icmp_ge (tgt := 193) dX4_tellWays_98 (by decide) h (fun _ h => ?_) (fun _ h => ?_)
    · refine gr_aload_n dX4_tellWays_101 rfl rfl ?_
      refine gr_getR q_38_20 fl_X4_54 dX4_tellWays_102 ?_
      refine gr_bipush dX4_tellWays_105 gk_b_7 ?_
      refine gr_iload_n dX4_tellWays_107 rfl rfl ?_
      refine gr_imul dX4_tellWays_108 ?_
      refine gr_iload_n dX4_tellWays_109 rfl rfl ?_
      refine gr_iadd dX4_tellWays_110 ?_
      refine gq_iaload s_52 dX4_tellWays_111 h (fun x10 h => ?_)
      refine gr_istore (lv' := [some (.ref 38), some (.int a1), some (.int a2), some (.int v3), some (.int x10), none]) dX4_tellWays_112 (by decide) rfl ?_
      refine gr_iconst dX4_tellWays_114 gk_i_0 ?_
      refine gr_istore (lv' := [some (.ref 38), some (.int a1), some (.int a2), some (.int v3), some (.int x10), some (.int (0 : Int32))]) dX4_tellWays_115 (by decide) rfl ?_
      refine l_X4_tellWays_117 (fun m16 h => ?_) _ _ _ h
      refine gr_iinc (lv' := [some (.ref 38), some (.int a1), some (.int a2), some (.int (v3 + (1 : Int32))), none, none]) dX4_tellWays_187 rfl gk_i_1 (by decide) rfl ?_
      refine gr_goto (tgt := 93) dX4_tellWays_190 (by decide) ?_
      exact ih _ _ h
    · refine gn_wkn [true, true, true, false, false, false] rfl ?_
      exact hk _ h
def L_X4_tellWays_81 (n : Nat) (a1 : Int32) (k : gn_M → Option (gn_M)) : Nat → Int32 → gn_M → Option (gn_M)
  | 0, _, _ => none
  | f + 1, v2, m => (if v2 < ((1 : Int32) <<< ((m.1 38 10) &&& 31)) then L_X4_tellWays_93 n a1 v2 (fun (m17 : gn_M) => L_X4_tellWays_81 n a1 k f (v2 + (1 : Int32)) m17) n (0 : Int32) m else k m)
set_option maxRecDepth 100000 in
set_option maxHeartbeats 4000000 in
theorem l_X4_tellWays_81 {n : Nat} {a1 : Int32} {k : gn_M → Option (gn_M)} {v : gn_M} (hk : ∀ (m1 : gn_M), k m1 = some v → gn_Go RX4 cX4_tellWays 6 2 43 none none 199 [none, none, none, none, none, none] [] m1 none v) : ∀ (f : Nat) (v2 : Int32) (m : gn_M), L_X4_tellWays_81 n a1 k f v2 m = some v → gn_Go RX4 cX4_tellWays 6 2 43 none none 81 [some (.ref 38), some (.int a1), some (.int v2), none, none, none] [] m none v := by
  intro f
  induction f with
  | zero =>
    intro v2 m h
    cases h
  | succ f ih =>
    intro v2 m h
    rw [L_X4_tellWays_81] at h
    refine gr_iload_n dX4_tellWays_81 rfl rfl ?_
    refine gr_iconst dX4_tellWays_82 gk_i_1 ?_
    refine gr_aload_n dX4_tellWays_83 rfl rfl ?_
    refine gr_getI q_38_10 fl_X4_104 dX4_tellWays_84 ?_
    refine gr_ishl dX4_tellWays_87 ?_
    refine gr_icmp_ge (tgt := 199) dX4_tellWays_88 (by decide) h (fun _ h => ?_) (fun _ h => ?_)
    · refine gr_iconst dX4_tellWays_91 gk_i_0 ?_
      refine gr_istore_n (lv' := [some (.ref 38), some (.int a1), some (.int v2), some (.int (0 : Int32)), none, none]) dX4_tellWays_92 rfl (by decide) rfl ?_
      refine l_X4_tellWays_93 (fun m17 h => ?_) _ _ _ h
      refine gr_iinc (lv' := [some (.ref 38), some (.int a1), some (.int (v2 + (1 : Int32))), none, none, none]) dX4_tellWays_193 rfl gk_i_1 (by decide) rfl ?_
      refine gr_goto (tgt := 81) dX4_tellWays_196 (by decide) ?_
      exact ih _ _ h
    · refine gn_wkn [false, false, false, false, false, false] rfl ?_
      exact hk _ h
def f_X4_tellWays (n : Nat) (m : gn_M) : Option (gn_M) := (f_X4_left m).bind (fun x1 => L_X4_tellWays_7 n x1 (fun (m3 : gn_M) => L_X4_tellWays_29 n x1 (fun (m9 : gn_M) => L_X4_tellWays_81 n x1 (fun (m18 : gn_M) => some m18) n (1 : Int32) m9) n (0 : Int32) m3) n (0 : Int32) m)
set_option maxRecDepth 100000 in
set_option maxHeartbeats 4000000 in
theorem c_X4_tellWays {n : Nat} {m : gn_M} {v : gn_M} (h : f_X4_tellWays n m = some v) : gn_Cl yX4_tellWays cX4_tellWays 6 none 2 43 [.ref 38] m none v := by
  rw [f_X4_tellWays] at h
  refine gn_met (lv := [some (.ref 38), none, none, none, none, none]) pl_X4 rfl rfl (Nat.le_of_ble_eq_true rfl) ?_
  refine gr_aload_n dX4_tellWays_0 rfl rfl ?_
  obtain ⟨x1, hx1, h⟩ := gn_bd h
  refine gc_VI (c_X4_left hx1) my_X4_left mv_X4_left ob_38 ml_X4_149 rfl rfl ⟨Nat.le_of_ble_eq_true rfl, Nat.le_of_ble_eq_true rfl⟩ (Nat.le_of_ble_eq_true rfl) dX4_tellWays_1 (fun fx1 => ?_)
  refine gr_istore_n (lv' := [some (.ref 38), some (.int x1), none, none, none, none]) dX4_tellWays_4 rfl (by decide) rfl ?_
  refine gr_iconst dX4_tellWays_5 gk_i_0 ?_
  refine gr_istore_n (lv' := [some (.ref 38), some (.int x1), some (.int (0 : Int32)), none, none, none]) dX4_tellWays_6 rfl (by decide) rfl ?_
  refine l_X4_tellWays_7 (fun m3 h => ?_) _ _ _ h
  refine gr_iconst dX4_tellWays_27 gk_i_0 ?_
  refine gr_istore_n (lv' := [some (.ref 38), some (.int x1), some (.int (0 : Int32)), none, none, none]) dX4_tellWays_28 rfl (by decide) rfl ?_
  refine l_X4_tellWays_29 (fun m9 h => ?_) _ _ _ h
  refine gr_iconst dX4_tellWays_79 gk_i_1 ?_
  refine gr_istore_n (lv' := [some (.ref 38), some (.int x1), some (.int (1 : Int32)), none, none, none]) dX4_tellWays_80 rfl (by decide) rfl ?_
  refine l_X4_tellWays_81 (fun m18 h => ?_) _ _ _ h
  exact gq_retVM dX4_tellWays_199 trivial h
def L_X4_worthOf_4 (n : Nat) (m : gn_M) (a1 : Int32) (k : Int32 → Option (Int32)) : Nat → Int32 → Int32 → Option (Int32)
  | 0, _, _ => none
  | f + 1, v2, v3 => (if v3 < (m.1 38 10) then (f_X4_has a1 v3).bind (fun x1 => (if x1 = 0 then L_X4_worthOf_4 n m a1 k f (v2 + (0 : Int32)) (v3 + (1 : Int32)) else gn_rd m 46 14 v3 (fun x2 => L_X4_worthOf_4 n m a1 k f (v2 + x2) (v3 + (1 : Int32))))) else k v2)
set_option maxRecDepth 100000 in
set_option maxHeartbeats 4000000 in
theorem l_X4_worthOf_4 {n : Nat} {m : gn_M} {a1 : Int32} {k : Int32 → Option (Int32)} {v : Int32} (hk : ∀ (e2 : Int32), k e2 = some v → gn_Go RX4 cX4_worthOf 4 1 21 (some .int) none 39 [none, none, some (.int e2), none] [] m (some (.int v)) m) : ∀ (f : Nat) (v2 : Int32) (v3 : Int32), L_X4_worthOf_4 n m a1 k f v2 v3 = some v → gn_Go RX4 cX4_worthOf 4 1 21 (some .int) none 4 [some (.ref 38), some (.int a1), some (.int v2), some (.int v3)] [] m (some (.int v)) m := by
  intro f
  induction f with
  | zero =>
    intro v2 v3 h
    cases h
  | succ f ih =>
    intro v2 v3 h
    rw [L_X4_worthOf_4] at h
    refine gr_iload_n dX4_worthOf_4 rfl rfl ?_
    refine gr_aload_n dX4_worthOf_5 rfl rfl ?_
    refine gr_getI q_38_10 fl_X4_104 dX4_worthOf_6 ?_
    refine gr_icmp_ge (tgt := 39) dX4_worthOf_9 (by decide) h (fun _ h => ?_) (fun _ h => ?_)
    · refine gr_iload_n dX4_worthOf_12 rfl rfl ?_
      refine gr_iload_n dX4_worthOf_13 rfl rfl ?_
      refine gr_iload_n dX4_worthOf_14 rfl rfl ?_
      obtain ⟨x1, hx1, h⟩ := gn_bd h
      refine gc_SI (c_X4_has hx1) my_X4_has ms_X4_has ml_X4_123 rfl rfl ⟨Nat.le_of_ble_eq_true rfl, Nat.le_of_ble_eq_true rfl⟩ (Nat.le_of_ble_eq_true rfl) dX4_worthOf_15 (fun fx1 => ?_)
      refine gr_if_eq (tgt := 30) dX4_worthOf_18 (by decide) h (fun _ h => ?_) (fun _ h => ?_)
      · refine gr_iconst dX4_worthOf_30 gk_i_0 ?_
        refine gr_iadd dX4_worthOf_31 ?_
        refine gr_istore_n (lv' := [some (.ref 38), some (.int a1), some (.int (v2 + (0 : Int32))), some (.int v3)]) dX4_worthOf_32 rfl (by decide) rfl ?_
        refine gr_iinc (lv' := [some (.ref 38), some (.int a1), some (.int (v2 + (0 : Int32))), some (.int (v3 + (1 : Int32)))]) dX4_worthOf_33 rfl gk_i_1 (by decide) rfl ?_
        refine gr_goto (tgt := 4) dX4_worthOf_36 (by decide) ?_
        exact ih _ _ h
      · refine gr_aload_n dX4_worthOf_21 rfl rfl ?_
        refine gr_getR q_38_12 fl_X4_36 dX4_worthOf_22 ?_
        refine gr_iload_n dX4_worthOf_25 rfl rfl ?_
        refine gq_iaload s_46 dX4_worthOf_26 h (fun x2 h => ?_)
        refine gr_goto (tgt := 31) dX4_worthOf_27 (by decide) ?_
        refine gr_iadd dX4_worthOf_31 ?_
        refine gr_istore_n (lv' := [some (.ref 38), some (.int a1), some (.int (v2 + x2)), some (.int v3)]) dX4_worthOf_32 rfl (by decide) rfl ?_
        refine gr_iinc (lv' := [some (.ref 38), some (.int a1), some (.int (v2 + x2)), some (.int (v3 + (1 : Int32)))]) dX4_worthOf_33 rfl gk_i_1 (by decide) rfl ?_
        refine gr_goto (tgt := 4) dX4_worthOf_36 (by decide) ?_
        exact ih _ _ h
    · refine gn_wkn [false, false, true, false] rfl ?_
      exact hk _ h
def f_X4_worthOf (n : Nat) (m : gn_M) (p0 : Int32) : Option (Int32) := L_X4_worthOf_4 n m p0 (fun (e3 : Int32) => some e3) n (0 : Int32) (0 : Int32)
set_option maxRecDepth 100000 in
set_option maxHeartbeats 4000000 in
theorem c_X4_worthOf {n : Nat} {m : gn_M} {p0 : Int32} {v : Int32} (h : f_X4_worthOf n m p0 = some v) : gn_Cl yX4_worthOf cX4_worthOf 4 (some .int) 1 21 [.ref 38, .int p0] m (some (.int v)) m := by
  rw [f_X4_worthOf] at h
  refine gn_met (lv := [some (.ref 38), some (.int p0), none, none]) pl_X4 rfl rfl (Nat.le_of_ble_eq_true rfl) ?_
  refine gr_iconst dX4_worthOf_0 gk_i_0 ?_
  refine gr_istore_n (lv' := [some (.ref 38), some (.int p0), some (.int (0 : Int32)), none]) dX4_worthOf_1 rfl (by decide) rfl ?_
  refine gr_iconst dX4_worthOf_2 gk_i_0 ?_
  refine gr_istore_n (lv' := [some (.ref 38), some (.int p0), some (.int (0 : Int32)), some (.int (0 : Int32))]) dX4_worthOf_3 rfl (by decide) rfl ?_
  refine l_X4_worthOf_4 (fun e3 h => ?_) _ _ _ h
  refine gr_iload_n dX4_worthOf_39 rfl rfl ?_
  exact gq_retI dX4_worthOf_40 rfl h
def L_X4_ordersOf_12 (n : Nat) (m : gn_M) (a1 : Int32) (k : Int32 → Option (Int32)) : Nat → Int32 → Int32 → Option (Int32)
  | 0, _, _ => none
  | f + 1, v2, v3 => (if v3 < (m.1 38 10) then gn_rd m 52 896 (((7 : Int32) * a1) + v3) (fun x2 => L_X4_ordersOf_12 n m a1 k f (v2 + x2) (v3 + (1 : Int32))) else k v2)
set_option maxRecDepth 100000 in
set_option maxHeartbeats 4000000 in
theorem l_X4_ordersOf_12 {n : Nat} {m : gn_M} {a1 : Int32} {k : Int32 → Option (Int32)} {v : Int32} (hk : ∀ (e2 : Int32), k e2 = some v → gn_Go RX4 cX4_ordersOf 4 0 0 (some .int) none 40 [none, none, some (.int e2), none] [] m (some (.int v)) m) : ∀ (f : Nat) (v2 : Int32) (v3 : Int32), L_X4_ordersOf_12 n m a1 k f v2 v3 = some v → gn_Go RX4 cX4_ordersOf 4 0 0 (some .int) none 12 [some (.ref 38), some (.int a1), some (.int v2), some (.int v3)] [] m (some (.int v)) m := by
  intro f
  induction f with
  | zero =>
    intro v2 v3 h
    cases h
  | succ f ih =>
    intro v2 v3 h
    rw [L_X4_ordersOf_12] at h
    refine gr_iload_n dX4_ordersOf_12 rfl rfl ?_
    refine gr_aload_n dX4_ordersOf_13 rfl rfl ?_
    refine gr_getI q_38_10 fl_X4_104 dX4_ordersOf_14 ?_
    refine gr_icmp_ge (tgt := 40) dX4_ordersOf_17 (by decide) h (fun _ h => ?_) (fun _ h => ?_)
    · refine gr_iload_n dX4_ordersOf_20 rfl rfl ?_
      refine gr_aload_n dX4_ordersOf_21 rfl rfl ?_
      refine gr_getR q_38_20 fl_X4_54 dX4_ordersOf_22 ?_
      refine gr_bipush dX4_ordersOf_25 gk_b_7 ?_
      refine gr_iload_n dX4_ordersOf_27 rfl rfl ?_
      refine gr_imul dX4_ordersOf_28 ?_
      refine gr_iload_n dX4_ordersOf_29 rfl rfl ?_
      refine gr_iadd dX4_ordersOf_30 ?_
      refine gq_iaload s_52 dX4_ordersOf_31 h (fun x2 h => ?_)
      refine gr_iadd dX4_ordersOf_32 ?_
      refine gr_istore_n (lv' := [some (.ref 38), some (.int a1), some (.int (v2 + x2)), some (.int v3)]) dX4_ordersOf_33 rfl (by decide) rfl ?_
      refine gr_iinc (lv' := [some (.ref 38), some (.int a1), some (.int (v2 + x2)), some (.int (v3 + (1 : Int32)))]) dX4_ordersOf_34 rfl gk_i_1 (by decide) rfl ?_
      refine gr_goto (tgt := 12) dX4_ordersOf_37 (by decide) ?_
      exact ih _ _ h
    · refine gn_wkn [false, false, true, false] rfl ?_
      exact hk _ h
def f_X4_ordersOf (n : Nat) (m : gn_M) (p0 : Int32) : Option (Int32) := L_X4_ordersOf_12 n m p0 (fun (e3 : Int32) => some e3) n (if p0 = 0 then (1 : Int32) else (0 : Int32)) (0 : Int32)
set_option maxRecDepth 100000 in
set_option maxHeartbeats 4000000 in
theorem c_X4_ordersOf {n : Nat} {m : gn_M} {p0 : Int32} {v : Int32} (h : f_X4_ordersOf n m p0 = some v) : gn_Cl yX4_ordersOf cX4_ordersOf 4 (some .int) 0 0 [.ref 38, .int p0] m (some (.int v)) m := by
  rw [f_X4_ordersOf] at h
  refine gn_met (lv := [some (.ref 38), some (.int p0), none, none]) pl_X4 rfl rfl (Nat.le_of_ble_eq_true rfl) ?_
  refine gr_iload_n dX4_ordersOf_0 rfl rfl ?_
  have hJ : ∀ y1 : Int32, y1 = (if p0 = 0 then (1 : Int32) else (0 : Int32)) → gn_Go RX4 cX4_ordersOf 4 0 0 (some .int) none 9 [some (.ref 38), some (.int p0), none, none] [.int y1] m (some (.int v)) m := by
    intro y1 hx
    subst hx
    refine gr_istore_n (lv' := [some (.ref 38), some (.int p0), some (.int (if p0 = 0 then (1 : Int32) else (0 : Int32))), none]) dX4_ordersOf_9 rfl (by decide) rfl ?_
    refine gr_iconst dX4_ordersOf_10 gk_i_0 ?_
    refine gr_istore_n (lv' := [some (.ref 38), some (.int p0), some (.int (if p0 = 0 then (1 : Int32) else (0 : Int32))), some (.int (0 : Int32))]) dX4_ordersOf_11 rfl (by decide) rfl ?_
    refine l_X4_ordersOf_12 (fun e3 h => ?_) _ _ _ h
    refine gr_iload_n dX4_ordersOf_40 rfl rfl ?_
    exact gq_retI dX4_ordersOf_41 rfl h
  by_cases hc0 : p0 = 0
  · refine gr_ifT_ne (tgt := 8) dX4_ordersOf_1 (by decide) hc0 ?_
    refine gr_iconst dX4_ordersOf_4 gk_i_1 ?_
    refine gr_goto (tgt := 9) dX4_ordersOf_5 (by decide) ?_
    exact hJ _ (by rw [if_pos hc0])
  · refine gr_ifF_ne (tgt := 8) dX4_ordersOf_1 (by decide) hc0 ?_
    refine gr_iconst dX4_ordersOf_8 gk_i_0 ?_
    exact hJ _ (by rw [if_neg hc0])
def L_X4_worth_24 (n : Nat) (m : gn_M) (k : Int32 → Int32 → Option (Int32 × gn_M)) : Nat → Int32 → Int32 → Int32 → Option (Int32 × gn_M)
  | 0, _, _, _ => none
  | f + 1, v1, v2, v3 => (if v3 < ((1 : Int32) <<< ((m.1 38 10) &&& 31)) then (f_X4_worthOf n m v3).bind (fun x3 => (f_X4_ordersOf n m v3).bind (fun x4 => (if 0 < x4 then (if v1 < x3 then (f_X4_bitsOf n v3).bind (fun x5 => L_X4_worth_24 n m k f x3 x5 (v3 + (1 : Int32))) else (if x3 = v1 then (f_X4_bitsOf n v3).bind (fun x6 => (if x6 < v2 then (f_X4_bitsOf n v3).bind (fun x7 => L_X4_worth_24 n m k f x3 x7 (v3 + (1 : Int32))) else L_X4_worth_24 n m k f v1 v2 (v3 + (1 : Int32)))) else L_X4_worth_24 n m k f v1 v2 (v3 + (1 : Int32)))) else L_X4_worth_24 n m k f v1 v2 (v3 + (1 : Int32))))) else k v1 v2)
set_option maxRecDepth 100000 in
set_option maxHeartbeats 4000000 in
theorem l_X4_worth_24 {n : Nat} {m : gn_M} {k : Int32 → Int32 → Option (Int32 × gn_M)} {v : Int32 × gn_M} (hk : ∀ (e1 : Int32) (e2 : Int32), k e1 e2 = some v → gn_Go RX4 cX4_worth 5 4 89 (some .int) none 83 [some (.ref 38), some (.int e1), some (.int e2), none, none] [] m (some (.int v.1)) v.2) : ∀ (f : Nat) (v1 : Int32) (v2 : Int32) (v3 : Int32), L_X4_worth_24 n m k f v1 v2 v3 = some v → gn_Go RX4 cX4_worth 5 4 89 (some .int) none 24 [some (.ref 38), some (.int v1), some (.int v2), some (.int v3), none] [] m (some (.int v.1)) v.2 := by
  intro f
  induction f with
  | zero =>
    intro v1 v2 v3 h
    cases h
  | succ f ih =>
    intro v1 v2 v3 h
    rw [L_X4_worth_24] at h
    refine gr_iload_n dX4_worth_24 rfl rfl ?_
    refine gr_iconst dX4_worth_25 gk_i_1 ?_
    refine gr_aload_n dX4_worth_26 rfl rfl ?_
    refine gr_getI q_38_10 fl_X4_104 dX4_worth_27 ?_
    refine gr_ishl dX4_worth_30 ?_
    refine gr_icmp_ge (tgt := 83) dX4_worth_31 (by decide) h (fun _ h => ?_) (fun _ h => ?_)
    · refine gr_aload_n dX4_worth_34 rfl rfl ?_
      refine gr_iload_n dX4_worth_35 rfl rfl ?_
      obtain ⟨x3, hx3, h⟩ := gn_bd h
      refine gc_VI (c_X4_worthOf hx3) my_X4_worthOf mv_X4_worthOf ob_38 ml_X4_193 rfl rfl ⟨Nat.le_of_ble_eq_true rfl, Nat.le_of_ble_eq_true rfl⟩ (Nat.le_of_ble_eq_true rfl) dX4_worth_36 (fun fx3 => ?_)
      refine gr_istore (lv' := [some (.ref 38), some (.int v1), some (.int v2), some (.int v3), some (.int x3)]) dX4_worth_39 (by decide) rfl ?_
      refine gr_aload_n dX4_worth_41 rfl rfl ?_
      refine gr_iload_n dX4_worth_42 rfl rfl ?_
      obtain ⟨x4, hx4, h⟩ := gn_bd h
      refine gc_VI (c_X4_ordersOf hx4) my_X4_ordersOf mv_X4_ordersOf ob_38 ml_X4_175 rfl rfl ⟨Nat.le_of_ble_eq_true rfl, Nat.le_of_ble_eq_true rfl⟩ (Nat.le_of_ble_eq_true rfl) dX4_worth_43 (fun fx4 => ?_)
      refine gr_if_le (tgt := 77) dX4_worth_46 (by decide) h (fun _ h => ?_) (fun _ h => ?_)
      · refine gr_iload dX4_worth_49 rfl ?_
        refine gr_iload_n dX4_worth_51 rfl rfl ?_
        refine gr_icmp_gt (tgt := 69) dX4_worth_52 (by decide) h (fun _ h => ?_) (fun _ h => ?_)
        · refine gr_iload dX4_worth_69 rfl ?_
          refine gr_istore_n (lv' := [some (.ref 38), some (.int x3), some (.int v2), some (.int v3), some (.int x3)]) dX4_worth_71 rfl (by decide) rfl ?_
          refine gr_iload_n dX4_worth_72 rfl rfl ?_
          obtain ⟨x5, hx5, h⟩ := gn_bd h
          refine gc_SI (c_X4_bitsOf hx5) my_X4_bitsOf ms_X4_bitsOf ml_X4_153 rfl rfl ⟨Nat.le_of_ble_eq_true rfl, Nat.le_of_ble_eq_true rfl⟩ (Nat.le_of_ble_eq_true rfl) dX4_worth_73 (fun fx5 => ?_)
          refine gr_istore_n (lv' := [some (.ref 38), some (.int x3), some (.int x5), some (.int v3), some (.int x3)]) dX4_worth_76 rfl (by decide) rfl ?_
          refine gr_iinc (lv' := [some (.ref 38), some (.int x3), some (.int x5), some (.int (v3 + (1 : Int32))), some (.int x3)]) dX4_worth_77 rfl gk_i_1 (by decide) rfl ?_
          refine gr_goto (tgt := 24) dX4_worth_80 (by decide) ?_
          refine gn_wkn [true, true, true, true, false] rfl ?_
          exact ih _ _ _ h
        · refine gr_iload dX4_worth_55 rfl ?_
          refine gr_iload_n dX4_worth_57 rfl rfl ?_
          refine gr_icmp_ne (tgt := 77) dX4_worth_58 (by decide) h (fun _ h => ?_) (fun _ h => ?_)
          · refine gr_iload_n dX4_worth_61 rfl rfl ?_
            obtain ⟨x6, hx6, h⟩ := gn_bd h
            refine gc_SI (c_X4_bitsOf hx6) my_X4_bitsOf ms_X4_bitsOf ml_X4_153 rfl rfl ⟨Nat.le_of_ble_eq_true rfl, Nat.le_of_ble_eq_true rfl⟩ (Nat.le_of_ble_eq_true rfl) dX4_worth_62 (fun fx6 => ?_)
            refine gr_iload_n dX4_worth_65 rfl rfl ?_
            refine gr_icmp_ge (tgt := 77) dX4_worth_66 (by decide) h (fun _ h => ?_) (fun _ h => ?_)
            · refine gr_iload dX4_worth_69 rfl ?_
              refine gr_istore_n (lv' := [some (.ref 38), some (.int x3), some (.int v2), some (.int v3), some (.int x3)]) dX4_worth_71 rfl (by decide) rfl ?_
              refine gr_iload_n dX4_worth_72 rfl rfl ?_
              obtain ⟨x7, hx7, h⟩ := gn_bd h
              refine gc_SI (c_X4_bitsOf hx7) my_X4_bitsOf ms_X4_bitsOf ml_X4_153 rfl rfl ⟨Nat.le_of_ble_eq_true rfl, Nat.le_of_ble_eq_true rfl⟩ (Nat.le_of_ble_eq_true rfl) dX4_worth_73 (fun fx7 => ?_)
              refine gr_istore_n (lv' := [some (.ref 38), some (.int x3), some (.int x7), some (.int v3), some (.int x3)]) dX4_worth_76 rfl (by decide) rfl ?_
              refine gr_iinc (lv' := [some (.ref 38), some (.int x3), some (.int x7), some (.int (v3 + (1 : Int32))), some (.int x3)]) dX4_worth_77 rfl gk_i_1 (by decide) rfl ?_
              refine gr_goto (tgt := 24) dX4_worth_80 (by decide) ?_
              refine gn_wkn [true, true, true, true, false] rfl ?_
              exact ih _ _ _ h
            · refine gr_iinc (lv' := [some (.ref 38), some (.int v1), some (.int v2), some (.int (v3 + (1 : Int32))), some (.int x3)]) dX4_worth_77 rfl gk_i_1 (by decide) rfl ?_
              refine gr_goto (tgt := 24) dX4_worth_80 (by decide) ?_
              refine gn_wkn [true, true, true, true, false] rfl ?_
              exact ih _ _ _ h
          · refine gr_iinc (lv' := [some (.ref 38), some (.int v1), some (.int v2), some (.int (v3 + (1 : Int32))), some (.int x3)]) dX4_worth_77 rfl gk_i_1 (by decide) rfl ?_
            refine gr_goto (tgt := 24) dX4_worth_80 (by decide) ?_
            refine gn_wkn [true, true, true, true, false] rfl ?_
            exact ih _ _ _ h
      · refine gr_iinc (lv' := [some (.ref 38), some (.int v1), some (.int v2), some (.int (v3 + (1 : Int32))), some (.int x3)]) dX4_worth_77 rfl gk_i_1 (by decide) rfl ?_
        refine gr_goto (tgt := 24) dX4_worth_80 (by decide) ?_
        refine gn_wkn [true, true, true, true, false] rfl ?_
        exact ih _ _ _ h
    · refine gn_wkn [true, true, true, false, false] rfl ?_
      exact hk _ _ h
def f_X4_worth (n : Nat) (m : gn_M) : Option (Int32 × gn_M) := (if (m.1 38 10) = 0 then some ((-4 : Int32), m) else (f_X4_tellNames n m).bind (fun x1 => (f_X4_tellWays n x1).bind (fun x2 => L_X4_worth_24 n x2 (fun (e8 : Int32) (e9 : Int32) => (f_X4_told x2 e9).bind (fun x10 => some (e8, x10.2))) n (0 : Int32) (0 : Int32) (0 : Int32))))
set_option maxRecDepth 100000 in
set_option maxHeartbeats 4000000 in
theorem c_X4_worth {n : Nat} {m : gn_M} {v : Int32 × gn_M} (h : f_X4_worth n m = some v) : gn_Cl yX4_worth cX4_worth 5 (some .int) 4 89 [.ref 38] m (some (.int v.1)) v.2 := by
  rw [f_X4_worth] at h
  refine gn_met (lv := [some (.ref 38), none, none, none, none]) pl_X4 rfl rfl (Nat.le_of_ble_eq_true rfl) ?_
  refine gr_aload_n dX4_worth_0 rfl rfl ?_
  refine gr_getI q_38_10 fl_X4_104 dX4_worth_1 ?_
  refine gr_if_ne (tgt := 10) dX4_worth_4 (by decide) h (fun _ h => ?_) (fun _ h => ?_)
  · refine gr_bipush dX4_worth_7 gk_b_m4 ?_
    exact gq_retIM dX4_worth_9 rfl h
  · refine gr_aload_n dX4_worth_10 rfl rfl ?_
    obtain ⟨x1, hx1, h⟩ := gn_bd h
    refine gc_V0 (c_X4_tellNames hx1) my_X4_tellNames mv_X4_tellNames ob_38 ml_X4_181 rfl rfl ⟨Nat.le_of_ble_eq_true rfl, Nat.le_of_ble_eq_true rfl⟩ (Nat.le_of_ble_eq_true rfl) dX4_worth_11 (fun fx1 => ?_)
    refine gr_aload_n dX4_worth_14 rfl rfl ?_
    obtain ⟨x2, hx2, h⟩ := gn_bd h
    refine gc_V0 (c_X4_tellWays hx2) my_X4_tellWays mv_X4_tellWays ob_38 ml_X4_190 rfl rfl ⟨Nat.le_of_ble_eq_true rfl, Nat.le_of_ble_eq_true rfl⟩ (Nat.le_of_ble_eq_true rfl) dX4_worth_15 (fun fx2 => ?_)
    refine gr_iconst dX4_worth_18 gk_i_0 ?_
    refine gr_istore_n (lv' := [some (.ref 38), some (.int (0 : Int32)), none, none, none]) dX4_worth_19 rfl (by decide) rfl ?_
    refine gr_iconst dX4_worth_20 gk_i_0 ?_
    refine gr_istore_n (lv' := [some (.ref 38), some (.int (0 : Int32)), some (.int (0 : Int32)), none, none]) dX4_worth_21 rfl (by decide) rfl ?_
    refine gr_iconst dX4_worth_22 gk_i_0 ?_
    refine gr_istore_n (lv' := [some (.ref 38), some (.int (0 : Int32)), some (.int (0 : Int32)), some (.int (0 : Int32)), none]) dX4_worth_23 rfl (by decide) rfl ?_
    refine l_X4_worth_24 (fun e8 e9 h => ?_) _ _ _ _ h
    refine gr_aload_n dX4_worth_83 rfl rfl ?_
    refine gr_iload_n dX4_worth_84 rfl rfl ?_
    obtain ⟨x10, hx10, h⟩ := gn_bd h
    refine gc_VI (c_X4_told hx10) my_X4_told mv_X4_told ob_38 ml_X4_89 rfl rfl ⟨Nat.le_of_ble_eq_true rfl, Nat.le_of_ble_eq_true rfl⟩ (Nat.le_of_ble_eq_true rfl) dX4_worth_85 (fun fx10 => ?_)
    refine gr_pop dX4_worth_88 rfl ?_
    refine gr_iload_n dX4_worth_89 rfl rfl ?_
    exact gq_retIM dX4_worth_90 rfl h
def f_X4_orders (n : Nat) (m : gn_M) : Option (Int32 × gn_M) := (if (m.1 38 10) = 0 then some ((-4 : Int32), m) else (f_X4_tellNames n m).bind (fun x1 => (f_X4_tellWays n x1).bind (fun x2 => (f_X4_left x2).bind (fun x3 => (f_X4_ordersOf n x2 x3).bind (fun x4 => some (x4, x2))))))
set_option maxRecDepth 100000 in
set_option maxHeartbeats 4000000 in
theorem c_X4_orders {n : Nat} {m : gn_M} {v : Int32 × gn_M} (h : f_X4_orders n m = some v) : gn_Cl yX4_orders cX4_orders 1 (some .int) 4 89 [.ref 38] m (some (.int v.1)) v.2 := by
  rw [f_X4_orders] at h
  refine gn_met (lv := [some (.ref 38)]) pl_X4 rfl rfl (Nat.le_of_ble_eq_true rfl) ?_
  refine gr_aload_n dX4_orders_0 rfl rfl ?_
  refine gr_getI q_38_10 fl_X4_104 dX4_orders_1 ?_
  refine gr_if_ne (tgt := 10) dX4_orders_4 (by decide) h (fun _ h => ?_) (fun _ h => ?_)
  · refine gr_bipush dX4_orders_7 gk_b_m4 ?_
    exact gq_retIM dX4_orders_9 rfl h
  · refine gr_aload_n dX4_orders_10 rfl rfl ?_
    obtain ⟨x1, hx1, h⟩ := gn_bd h
    refine gc_V0 (c_X4_tellNames hx1) my_X4_tellNames mv_X4_tellNames ob_38 ml_X4_181 rfl rfl ⟨Nat.le_of_ble_eq_true rfl, Nat.le_of_ble_eq_true rfl⟩ (Nat.le_of_ble_eq_true rfl) dX4_orders_11 (fun fx1 => ?_)
    refine gr_aload_n dX4_orders_14 rfl rfl ?_
    obtain ⟨x2, hx2, h⟩ := gn_bd h
    refine gc_V0 (c_X4_tellWays hx2) my_X4_tellWays mv_X4_tellWays ob_38 ml_X4_190 rfl rfl ⟨Nat.le_of_ble_eq_true rfl, Nat.le_of_ble_eq_true rfl⟩ (Nat.le_of_ble_eq_true rfl) dX4_orders_15 (fun fx2 => ?_)
    refine gr_aload_n dX4_orders_18 rfl rfl ?_
    refine gr_aload_n dX4_orders_19 rfl rfl ?_
    obtain ⟨x3, hx3, h⟩ := gn_bd h
    refine gc_VI (c_X4_left hx3) my_X4_left mv_X4_left ob_38 ml_X4_149 rfl rfl ⟨Nat.le_of_ble_eq_true rfl, Nat.le_of_ble_eq_true rfl⟩ (Nat.le_of_ble_eq_true rfl) dX4_orders_20 (fun fx3 => ?_)
    obtain ⟨x4, hx4, h⟩ := gn_bd h
    refine gc_VI (c_X4_ordersOf hx4) my_X4_ordersOf mv_X4_ordersOf ob_38 ml_X4_175 rfl rfl ⟨Nat.le_of_ble_eq_true rfl, Nat.le_of_ble_eq_true rfl⟩ (Nat.le_of_ble_eq_true rfl) dX4_orders_23 (fun fx4 => ?_)
    exact gq_retIM dX4_orders_26 rfl h
def L_X4_takeTold_2 (n : Nat) (k : gn_M → Option (gn_M)) : Nat → Int32 → gn_M → Option (gn_M)
  | 0, _, _ => none
  | f + 1, v1, m => (if v1 < (m.1 38 10) then (f_X4_toldOf m v1).bind (fun x1 => gn_wr m 54 7 v1 x1 (fun m2 => L_X4_takeTold_2 n k f (v1 + (1 : Int32)) m2)) else k m)
set_option maxRecDepth 100000 in
set_option maxHeartbeats 4000000 in
theorem l_X4_takeTold_2 {n : Nat} {k : gn_M → Option (gn_M)} {v : gn_M} (hk : ∀ (m1 : gn_M), k m1 = some v → gn_Go RX4 cX4_takeTold 2 2 42 none none 27 [none, none] [] m1 none v) : ∀ (f : Nat) (v1 : Int32) (m : gn_M), L_X4_takeTold_2 n k f v1 m = some v → gn_Go RX4 cX4_takeTold 2 2 42 none none 2 [some (.ref 38), some (.int v1)] [] m none v := by
  intro f
  induction f with
  | zero =>
    intro v1 m h
    cases h
  | succ f ih =>
    intro v1 m h
    rw [L_X4_takeTold_2] at h
    refine gr_iload_n dX4_takeTold_2 rfl rfl ?_
    refine gr_aload_n dX4_takeTold_3 rfl rfl ?_
    refine gr_getI q_38_10 fl_X4_104 dX4_takeTold_4 ?_
    refine gr_icmp_ge (tgt := 27) dX4_takeTold_7 (by decide) h (fun _ h => ?_) (fun _ h => ?_)
    · refine gr_aload_n dX4_takeTold_10 rfl rfl ?_
      refine gr_getR q_38_22 fl_X4_60 dX4_takeTold_11 ?_
      refine gr_iload_n dX4_takeTold_14 rfl rfl ?_
      refine gr_aload_n dX4_takeTold_15 rfl rfl ?_
      refine gr_iload_n dX4_takeTold_16 rfl rfl ?_
      obtain ⟨x1, hx1, h⟩ := gn_bd h
      refine gc_VI (c_X4_toldOf hx1) my_X4_toldOf mv_X4_toldOf ob_38 ml_X4_113 rfl rfl ⟨Nat.le_of_ble_eq_true rfl, Nat.le_of_ble_eq_true rfl⟩ (Nat.le_of_ble_eq_true rfl) dX4_takeTold_17 (fun fx1 => ?_)
      refine gq_iastore s_54 dX4_takeTold_20 h (fun m2 h => ?_)
      refine gr_iinc (lv' := [some (.ref 38), some (.int (v1 + (1 : Int32)))]) dX4_takeTold_21 rfl gk_i_1 (by decide) rfl ?_
      refine gr_goto (tgt := 2) dX4_takeTold_24 (by decide) ?_
      exact ih _ _ h
    · refine gn_wkn [false, false] rfl ?_
      exact hk _ h
def f_X4_takeTold (n : Nat) (m : gn_M) : Option (gn_M) := L_X4_takeTold_2 n (fun (m3 : gn_M) => some m3) n (0 : Int32) m
set_option maxRecDepth 100000 in
set_option maxHeartbeats 4000000 in
theorem c_X4_takeTold {n : Nat} {m : gn_M} {v : gn_M} (h : f_X4_takeTold n m = some v) : gn_Cl yX4_takeTold cX4_takeTold 2 none 2 42 [.ref 38] m none v := by
  rw [f_X4_takeTold] at h
  refine gn_met (lv := [some (.ref 38), none]) pl_X4 rfl rfl (Nat.le_of_ble_eq_true rfl) ?_
  refine gr_iconst dX4_takeTold_0 gk_i_0 ?_
  refine gr_istore_n (lv' := [some (.ref 38), some (.int (0 : Int32))]) dX4_takeTold_1 rfl (by decide) rfl ?_
  refine l_X4_takeTold_2 (fun m3 h => ?_) _ _ _ h
  exact gq_retVM dX4_takeTold_27 trivial h
