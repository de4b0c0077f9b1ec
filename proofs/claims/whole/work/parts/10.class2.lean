def L_X1_writeFirstRow_14 (n : Nat) (a1 : Nat) (a2 : Int32) (k : gn_M → Option (gn_M)) : Nat → Int32 → Int32 → Int32 → gn_M → Option (gn_M)
  | 0, _, _, _, _ => none
  | f + 1, v3, v4, v5, m => (if v5 < a2 then (if v5 < (40 : Int32) then (f_X1_firstsOf n m v3 (a2 - v5)).bind (fun x1 => (f_J6_numberOfTrailingZeros_0f7a4 (x1 &&& v4)).bind (fun x2 => (if x2 < (m.1 8 5) then gn_wr m a1 40 v5 x2 (fun m3 => gn_rd m3 33 7 x2 (fun x4 => L_X1_writeFirstRow_14 n a1 a2 k f (v3 &&& (((1 : Int32) <<< (x2 &&& 31)) ^^^ (-1 : Int32))) x4 (v5 + (1 : Int32)) m3)) else some m))) else k m) else k m)
set_option maxRecDepth 100000 in
set_option maxHeartbeats 4000000 in
theorem l_X1_writeFirstRow_14 {n : Nat} {a1 : Nat} {a2 : Int32} {k : gn_M → Option (gn_M)} {v : gn_M} (ha1 : gn_S[a1]? = some (.inl (0, 40))) (hk : ∀ (m1 : gn_M), k m1 = some v → gn_Go RX1 cX1_writeFirstRow 7 2 44 none none 84 [none, none, none, none, none, none, none] [] m1 none v) : ∀ (f : Nat) (v3 : Int32) (v4 : Int32) (v5 : Int32) (m : gn_M), L_X1_writeFirstRow_14 n a1 a2 k f v3 v4 v5 m = some v → gn_Go RX1 cX1_writeFirstRow 7 2 44 none none 14 [some (.ref 8), some (.ref a1), some (.int a2), some (.int v3), some (.int v4), some (.int v5), none] [] m none v := by
  intro f
  induction f with
  | zero =>
    intro v3 v4 v5 m h
    cases h
  | succ f ih =>
    intro v3 v4 v5 m h
    rw [L_X1_writeFirstRow_14] at h
    refine gr_iload dX1_writeFirstRow_14 rfl ?_
    refine gr_iload_n dX1_writeFirstRow_16 rfl rfl ?_
    refine gr_icmp_ge (tgt := 84) dX1_writeFirstRow_17 (by decide) h (fun _ h => ?_) (fun _ h => ?_)
    · refine gr_iload dX1_writeFirstRow_20 rfl ?_
      refine gr_aload_n dX1_writeFirstRow_22 rfl rfl ?_
      refine gr_alen (v := (40 : Int32)) ha1 (by decide) (by decide) dX1_writeFirstRow_23 ?_
      refine gr_icmp_ge (tgt := 84) dX1_writeFirstRow_24 (by decide) h (fun _ h => ?_) (fun _ h => ?_)
      · refine gr_aload_n dX1_writeFirstRow_27 rfl rfl ?_
        refine gr_iload_n dX1_writeFirstRow_28 rfl rfl ?_
        refine gr_iload_n dX1_writeFirstRow_29 rfl rfl ?_
        refine gr_iload dX1_writeFirstRow_30 rfl ?_
        refine gr_isub dX1_writeFirstRow_32 ?_
        obtain ⟨x1, hx1, h⟩ := gn_bd h
        refine gc_VI (c_X1_firstsOf hx1) my_X1_firstsOf mv_X1_firstsOf ob_8 ml_X1_92 rfl rfl ⟨Nat.le_of_ble_eq_true rfl, Nat.le_of_ble_eq_true rfl⟩ (Nat.le_of_ble_eq_true rfl) dX1_writeFirstRow_33 (fun fx1 => ?_)
        refine gr_iload dX1_writeFirstRow_36 rfl ?_
        refine gr_iand dX1_writeFirstRow_38 ?_
        obtain ⟨x2, hx2, h⟩ := gn_bd h
        refine gc_SI (c_J6_numberOfTrailingZeros_0f7a4 hx2) my_J6_numberOfTrailingZeros_0f7a4 ms_J6_numberOfTrailingZeros_0f7a4 ml_X1_95 rfl rfl ⟨Nat.le_of_ble_eq_true rfl, Nat.le_of_ble_eq_true rfl⟩ (Nat.le_of_ble_eq_true rfl) dX1_writeFirstRow_39 (fun fx2 => ?_)
        refine gr_istore (lv' := [some (.ref 8), some (.ref a1), some (.int a2), some (.int v3), some (.int v4), some (.int v5), some (.int x2)]) dX1_writeFirstRow_42 (by decide) rfl ?_
        refine gr_iload dX1_writeFirstRow_44 rfl ?_
        refine gr_aload_n dX1_writeFirstRow_46 rfl rfl ?_
        refine gr_getI q_8_5 fl_X1_27 dX1_writeFirstRow_47 ?_
        refine gr_icmp_lt (tgt := 54) dX1_writeFirstRow_50 (by decide) h (fun _ h => ?_) (fun _ h => ?_)
        · refine gr_aload_n dX1_writeFirstRow_54 rfl rfl ?_
          refine gr_iload dX1_writeFirstRow_55 rfl ?_
          refine gr_iload dX1_writeFirstRow_57 rfl ?_
          refine gq_iastore ha1 dX1_writeFirstRow_59 h (fun m3 h => ?_)
          refine gr_iload_n dX1_writeFirstRow_60 rfl rfl ?_
          refine gr_iconst dX1_writeFirstRow_61 gk_i_1 ?_
          refine gr_iload dX1_writeFirstRow_62 rfl ?_
          refine gr_ishl dX1_writeFirstRow_64 ?_
          refine gr_iconst dX1_writeFirstRow_65 gk_i_m1 ?_
          refine gr_ixor dX1_writeFirstRow_66 ?_
          refine gr_iand dX1_writeFirstRow_67 ?_
          refine gr_istore_n (lv' := [some (.ref 8), some (.ref a1), some (.int a2), some (.int (v3 &&& (((1 : Int32) <<< (x2 &&& 31)) ^^^ (-1 : Int32)))), some (.int v4), some (.int v5), some (.int x2)]) dX1_writeFirstRow_68 rfl (by decide) rfl ?_
          refine gr_aload_n dX1_writeFirstRow_69 rfl rfl ?_
          refine gr_getR q_8_0 fl_X1_9 dX1_writeFirstRow_70 ?_
          refine gr_iload dX1_writeFirstRow_73 rfl ?_
          refine gq_iaload s_33 dX1_writeFirstRow_75 h (fun x4 h => ?_)
          refine gr_istore (lv' := [some (.ref 8), some (.ref a1), some (.int a2), some (.int (v3 &&& (((1 : Int32) <<< (x2 &&& 31)) ^^^ (-1 : Int32)))), some (.int x4), some (.int v5), some (.int x2)]) dX1_writeFirstRow_76 (by decide) rfl ?_
          refine gr_iinc (lv' := [some (.ref 8), some (.ref a1), some (.int a2), some (.int (v3 &&& (((1 : Int32) <<< (x2 &&& 31)) ^^^ (-1 : Int32)))), some (.int x4), some (.int (v5 + (1 : Int32))), some (.int x2)]) dX1_writeFirstRow_78 rfl gk_i_1 (by decide) rfl ?_
          refine gr_goto (tgt := 14) dX1_writeFirstRow_81 (by decide) ?_
          refine gn_wkn [true, true, true, true, true, true, false] rfl ?_
          exact ih _ _ _ _ h
        · exact gq_retVM dX1_writeFirstRow_53 trivial h
      · refine gn_wkn [false, false, false, false, false, false, false] rfl ?_
        exact hk _ h
    · refine gn_wkn [false, false, false, false, false, false, false] rfl ?_
      exact hk _ h
def f_X1_writeFirstRow (n : Nat) (m : gn_M) (p0 : Nat) (p1 : Int32) : Option (gn_M) := L_X1_writeFirstRow_14 n p0 p1 (fun (m5 : gn_M) => some m5) n (m.1 8 6) (m.1 8 7) (0 : Int32) m
set_option maxRecDepth 100000 in
set_option maxHeartbeats 4000000 in
theorem c_X1_writeFirstRow {n : Nat} {m : gn_M} {p0 : Nat} {p1 : Int32} {v : gn_M} (hp0 : gn_S[p0]? = some (.inl (0, 40))) (h : f_X1_writeFirstRow n m p0 p1 = some v) : gn_Cl yX1_writeFirstRow cX1_writeFirstRow 7 none 2 44 [.ref 8, .ref p0, .int p1] m none v := by
  rw [f_X1_writeFirstRow] at h
  refine gn_met (lv := [some (.ref 8), some (.ref p0), some (.int p1), none, none, none, none]) pl_X1 rfl rfl (Nat.le_of_ble_eq_true rfl) ?_
  refine gr_aload_n dX1_writeFirstRow_0 rfl rfl ?_
  refine gr_getI q_8_6 fl_X1_31 dX1_writeFirstRow_1 ?_
  refine gr_istore_n (lv' := [some (.ref 8), some (.ref p0), some (.int p1), some (.int (m.1 8 6)), none, none, none]) dX1_writeFirstRow_4 rfl (by decide) rfl ?_
  refine gr_aload_n dX1_writeFirstRow_5 rfl rfl ?_
  refine gr_getI q_8_7 fl_X1_34 dX1_writeFirstRow_6 ?_
  refine gr_istore (lv' := [some (.ref 8), some (.ref p0), some (.int p1), some (.int (m.1 8 6)), some (.int (m.1 8 7)), none, none]) dX1_writeFirstRow_9 (by decide) rfl ?_
  refine gr_iconst dX1_writeFirstRow_11 gk_i_0 ?_
  refine gr_istore (lv' := [some (.ref 8), some (.ref p0), some (.int p1), some (.int (m.1 8 6)), some (.int (m.1 8 7)), some (.int (0 : Int32)), none]) dX1_writeFirstRow_12 (by decide) rfl ?_
  refine l_X1_writeFirstRow_14 hp0 (fun m5 h => ?_) _ _ _ _ _ h
  exact gq_retVM dX1_writeFirstRow_84 trivial h
def f_X3_most (n : Nat) (m : gn_M) (p0 : Int32) : Option (Int32 × gn_M) := (f_X2_numbers_r m p0).bind (fun x1 => (if x1 = 0 then some ((-1 : Int32), m) else (if (m.1 7 6) = 0 then some ((-4 : Int32), m) else (f_X1_survey n m 30).bind (fun x2 => (f_X1_rank n x2).bind (fun x3 => gn_rd x3 35 128 (x3.1 8 6) (fun x4 => (f_X2_spread_r n x3 p0 x4 (0 : Int32)).bind (fun x5 => gn_ra 10 6 p0 (fun k6 => (f_X1_writeFirstRow n x5 k6 x4).bind (fun x7 => some (x4, x7))))))))))
set_option maxRecDepth 100000 in
set_option maxHeartbeats 4000000 in
theorem c_X3_most {n : Nat} {m : gn_M} {p0 : Int32} {v : Int32 × gn_M} (h : f_X3_most n m p0 = some v) : gn_Cl yX3_most cX3_most 3 (some .int) 4 88 [.ref 0, .int p0] m (some (.int v.1)) v.2 := by
  rw [f_X3_most] at h
  refine gn_met (lv := [some (.ref 0), some (.int p0), none]) pl_X3 rfl rfl (Nat.le_of_ble_eq_true rfl) ?_
  refine gr_aload_n dX3_most_0 rfl rfl ?_
  refine gr_getR q_0_0 fl_X3_14 dX3_most_1 ?_
  refine gr_iload_n dX3_most_4 rfl rfl ?_
  obtain ⟨x1, hx1, h⟩ := gn_bd h
  refine gc_VNI (c_X2_numbers_r hx1) my_X2_numbers mv_X2_numbers ob_1 ml_X3_95 rfl rfl ⟨Nat.le_of_ble_eq_true rfl, Nat.le_of_ble_eq_true rfl⟩ (Nat.le_of_ble_eq_true rfl) dX3_most_5 (fun fx1 => ?_)
  refine gr_if_ne (tgt := 13) dX3_most_8 (by decide) h (fun _ h => ?_) (fun _ h => ?_)
  · refine gr_iconst dX3_most_11 gk_i_m1 ?_
    exact gq_retIM dX3_most_12 rfl h
  · refine gr_aload_n dX3_most_13 rfl rfl ?_
    refine gr_getR q_0_2 fl_X3_24 dX3_most_14 ?_
    refine gr_getIN q_7_6 fl_X3_126 dX3_most_17 ?_
    refine gr_if_ne (tgt := 26) dX3_most_20 (by decide) h (fun _ h => ?_) (fun _ h => ?_)
    · refine gr_bipush dX3_most_23 gk_b_m4 ?_
      exact gq_retIM dX3_most_25 rfl h
    · refine gr_aload_n dX3_most_26 rfl rfl ?_
      refine gr_getR q_0_3 fl_X3_31 dX3_most_27 ?_
      refine gr_aload_n dX3_most_30 rfl rfl ?_
      refine gr_getR q_0_2 fl_X3_24 dX3_most_31 ?_
      refine gr_aload_n dX3_most_34 rfl rfl ?_
      refine gr_getR q_0_2 fl_X3_24 dX3_most_35 ?_
      refine gr_getRN q_7_3 fl_X3_203 dX3_most_38 ?_
      obtain ⟨x2, hx2, h⟩ := gn_bd h
      refine gc_VN0 (c_X1_survey s_30 hx2) my_X1_survey mv_X1_survey ob_8 ml_X3_206 rfl rfl ⟨Nat.le_of_ble_eq_true rfl, Nat.le_of_ble_eq_true rfl⟩ (Nat.le_of_ble_eq_true rfl) dX3_most_41 (fun fx2 => ?_)
      refine gr_aload_n dX3_most_44 rfl rfl ?_
      refine gr_getR q_0_3 fl_X3_31 dX3_most_45 ?_
      obtain ⟨x3, hx3, h⟩ := gn_bd h
      refine gc_VN0 (c_X1_rank hx3) my_X1_rank mv_X1_rank ob_8 ml_X3_210 rfl rfl ⟨Nat.le_of_ble_eq_true rfl, Nat.le_of_ble_eq_true rfl⟩ (Nat.le_of_ble_eq_true rfl) dX3_most_48 (fun fx3 => ?_)
      refine gr_aload_n dX3_most_51 rfl rfl ?_
      refine gr_getR q_0_3 fl_X3_31 dX3_most_52 ?_
      refine gr_getRN q_8_2 fl_X3_213 dX3_most_55 ?_
      refine gr_aload_n dX3_most_58 rfl rfl ?_
      refine gr_getR q_0_3 fl_X3_31 dX3_most_59 ?_
      refine gr_getIN q_8_6 fl_X3_216 dX3_most_62 ?_
      refine gq_iaload s_35 dX3_most_65 h (fun x4 h => ?_)
      refine gr_istore_n (lv' := [some (.ref 0), some (.int p0), some (.int x4)]) dX3_most_66 rfl (by decide) rfl ?_
      refine gr_aload_n dX3_most_67 rfl rfl ?_
      refine gr_getR q_0_0 fl_X3_14 dX3_most_68 ?_
      refine gr_iload_n dX3_most_71 rfl rfl ?_
      refine gr_iload_n dX3_most_72 rfl rfl ?_
      refine gr_iconst dX3_most_73 gk_i_0 ?_
      obtain ⟨x5, hx5, h⟩ := gn_bd h
      refine gc_VN0 (c_X2_spread_r hx5) my_X2_spread mv_X2_spread ob_1 ml_X3_218 rfl rfl ⟨Nat.le_of_ble_eq_true rfl, Nat.le_of_ble_eq_true rfl⟩ (Nat.le_of_ble_eq_true rfl) dX3_most_74 (fun fx5 => ?_)
      refine gr_aload_n dX3_most_77 rfl rfl ?_
      refine gr_getR q_0_3 fl_X3_31 dX3_most_78 ?_
      refine gr_aload_n dX3_most_81 rfl rfl ?_
      refine gr_getR q_0_0 fl_X3_14 dX3_most_82 ?_
      refine gr_getRN q_1_0 fl_X3_81 dX3_most_85 ?_
      refine gr_iload_n dX3_most_88 rfl rfl ?_
      refine gq_aaload ra_2 dX3_most_89 h (fun k6 hk6 h => ?_)
      refine gr_iload_n dX3_most_90 rfl rfl ?_
      obtain ⟨x7, hx7, h⟩ := gn_bd h
      refine gc_VN0 (c_X1_writeFirstRow hk6 hx7) my_X1_writeFirstRow mv_X1_writeFirstRow ob_8 ml_X3_221 rfl rfl ⟨Nat.le_of_ble_eq_true rfl, Nat.le_of_ble_eq_true rfl⟩ (Nat.le_of_ble_eq_true rfl) dX3_most_91 (fun fx7 => ?_)
      refine gr_iload_n dX3_most_94 rfl rfl ?_
      exact gq_retIM dX3_most_95 rfl h
def L_X0_worthOf_4 (n : Nat) (m : gn_M) (a1 : Int32) (k : Int32 → Option (Int32)) : Nat → Int32 → Int32 → Option (Int32)
  | 0, _, _ => none
  | f + 1, v2, v3 => (if v3 < (m.1 7 6) then (f_X3_isIn a1 v3).bind (fun x1 => (if x1 = 0 then L_X0_worthOf_4 n m a1 k f v2 (v3 + (1 : Int32)) else gn_rd m 28 7 v3 (fun x2 => L_X0_worthOf_4 n m a1 k f (v2 + x2) (v3 + (1 : Int32))))) else k v2)
set_option maxRecDepth 100000 in
set_option maxHeartbeats 4000000 in
theorem l_X0_worthOf_4 {n : Nat} {m : gn_M} {a1 : Int32} {k : Int32 → Option (Int32)} {v : Int32} (hk : ∀ (e2 : Int32), k e2 = some v → gn_Go RX0 cX0_worthOf 4 1 21 (some .int) none 35 [none, none, some (.int e2), none] [] m (some (.int v)) m) : ∀ (f : Nat) (v2 : Int32) (v3 : Int32), L_X0_worthOf_4 n m a1 k f v2 v3 = some v → gn_Go RX0 cX0_worthOf 4 1 21 (some .int) none 4 [some (.ref 7), some (.int a1), some (.int v2), some (.int v3)] [] m (some (.int v)) m := by
  intro f
  induction f with
  | zero =>
    intro v2 v3 h
    cases h
  | succ f ih =>
    intro v2 v3 h
    rw [L_X0_worthOf_4] at h
    refine gr_iload_n dX0_worthOf_4 rfl rfl ?_
    refine gr_aload_n dX0_worthOf_5 rfl rfl ?_
    refine gr_getI q_7_6 fl_X0_30 dX0_worthOf_6 ?_
    refine gr_icmp_ge (tgt := 35) dX0_worthOf_9 (by decide) h (fun _ h => ?_) (fun _ h => ?_)
    · refine gr_iload_n dX0_worthOf_12 rfl rfl ?_
      refine gr_iload_n dX0_worthOf_13 rfl rfl ?_
      obtain ⟨x1, hx1, h⟩ := gn_bd h
      refine gc_SNI (c_X3_isIn hx1) my_X3_isIn ms_X3_isIn ml_X0_46 rfl rfl ⟨Nat.le_of_ble_eq_true rfl, Nat.le_of_ble_eq_true rfl⟩ (Nat.le_of_ble_eq_true rfl) dX0_worthOf_14 (fun fx1 => ?_)
      refine gr_if_eq (tgt := 29) dX0_worthOf_17 (by decide) h (fun _ h => ?_) (fun _ h => ?_)
      · refine gr_iinc (lv' := [some (.ref 7), some (.int a1), some (.int v2), some (.int (v3 + (1 : Int32)))]) dX0_worthOf_29 rfl gk_i_1 (by decide) rfl ?_
        refine gr_goto (tgt := 4) dX0_worthOf_32 (by decide) ?_
        exact ih _ _ h
      · refine gr_iload_n dX0_worthOf_20 rfl rfl ?_
        refine gr_aload_n dX0_worthOf_21 rfl rfl ?_
        refine gr_getR q_7_1 fl_X0_15 dX0_worthOf_22 ?_
        refine gr_iload_n dX0_worthOf_25 rfl rfl ?_
        refine gq_iaload s_28 dX0_worthOf_26 h (fun x2 h => ?_)
        refine gr_iadd dX0_worthOf_27 ?_
        refine gr_istore_n (lv' := [some (.ref 7), some (.int a1), some (.int (v2 + x2)), some (.int v3)]) dX0_worthOf_28 rfl (by decide) rfl ?_
        refine gr_iinc (lv' := [some (.ref 7), some (.int a1), some (.int (v2 + x2)), some (.int (v3 + (1 : Int32)))]) dX0_worthOf_29 rfl gk_i_1 (by decide) rfl ?_
        refine gr_goto (tgt := 4) dX0_worthOf_32 (by decide) ?_
        exact ih _ _ h
    · refine gn_wkn [false, false, true, false] rfl ?_
      exact hk _ h
def f_X0_worthOf (n : Nat) (m : gn_M) (p0 : Int32) : Option (Int32) := L_X0_worthOf_4 n m p0 (fun (e3 : Int32) => some e3) n (0 : Int32) (0 : Int32)
set_option maxRecDepth 100000 in
set_option maxHeartbeats 4000000 in
theorem c_X0_worthOf {n : Nat} {m : gn_M} {p0 : Int32} {v : Int32} (h : f_X0_worthOf n m p0 = some v) : gn_Cl yX0_worthOf cX0_worthOf 4 (some .int) 1 21 [.ref 7, .int p0] m (some (.int v)) m := by
  rw [f_X0_worthOf] at h
  refine gn_met (lv := [some (.ref 7), some (.int p0), none, none]) pl_X0 rfl rfl (Nat.le_of_ble_eq_true rfl) ?_
  refine gr_iconst dX0_worthOf_0 gk_i_0 ?_
  refine gr_istore_n (lv' := [some (.ref 7), some (.int p0), some (.int (0 : Int32)), none]) dX0_worthOf_1 rfl (by decide) rfl ?_
  refine gr_iconst dX0_worthOf_2 gk_i_0 ?_
  refine gr_istore_n (lv' := [some (.ref 7), some (.int p0), some (.int (0 : Int32)), some (.int (0 : Int32))]) dX0_worthOf_3 rfl (by decide) rfl ?_
  refine l_X0_worthOf_4 (fun e3 h => ?_) _ _ _ h
  refine gr_iload_n dX0_worthOf_35 rfl rfl ?_
  exact gq_retI dX0_worthOf_36 rfl h
def L_X3_worth_37 (n : Nat) (m : gn_M) (k : Int32 → Int32 → Option (Int32 × gn_M)) : Nat → Int32 → Int32 → Int32 → Option (Int32 × gn_M)
  | 0, _, _, _ => none
  | f + 1, v1, v2, v3 => (if (m.1 8 6) < v3 then k v1 v2 else (f_X1_comesThrough m v3).bind (fun x2 => (if x2 = 0 then L_X3_worth_37 n m k f v1 v2 (v3 + (1 : Int32)) else (f_X0_worthOf n m v3).bind (fun x3 => (f_J6_bitCount_0f7a4 v3).bind (fun x4 => (if v1 < x3 then L_X3_worth_37 n m k f x3 x4 (v3 + (1 : Int32)) else (if x3 = v1 then (if x4 < v2 then L_X3_worth_37 n m k f x3 x4 (v3 + (1 : Int32)) else L_X3_worth_37 n m k f v1 v2 (v3 + (1 : Int32))) else L_X3_worth_37 n m k f v1 v2 (v3 + (1 : Int32)))))))))
set_option maxRecDepth 100000 in
set_option maxHeartbeats 4000000 in
theorem l_X3_worth_37 {n : Nat} {m : gn_M} {k : Int32 → Int32 → Option (Int32 × gn_M)} {v : Int32 × gn_M} (hk : ∀ (e1 : Int32) (e2 : Int32), k e1 e2 = some v → gn_Go RX3 cX3_worth 6 4 88 (some .int) none 105 [some (.ref 0), some (.int e1), some (.int e2), none, none, none] [] m (some (.int v.1)) v.2) : ∀ (f : Nat) (v1 : Int32) (v2 : Int32) (v3 : Int32), L_X3_worth_37 n m k f v1 v2 v3 = some v → gn_Go RX3 cX3_worth 6 4 88 (some .int) none 37 [some (.ref 0), some (.int v1), some (.int v2), some (.int v3), none, none] [] m (some (.int v.1)) v.2 := by
  intro f
  induction f with
  | zero =>
    intro v1 v2 v3 h
    cases h
  | succ f ih =>
    intro v1 v2 v3 h
    rw [L_X3_worth_37] at h
    refine gr_iload_n dX3_worth_37 rfl rfl ?_
    refine gr_aload_n dX3_worth_38 rfl rfl ?_
    refine gr_getR q_0_3 fl_X3_31 dX3_worth_39 ?_
    refine gr_getIN q_8_6 fl_X3_216 dX3_worth_42 ?_
    refine gr_icmp_gt (tgt := 105) dX3_worth_45 (by decide) h (fun _ h => ?_) (fun _ h => ?_)
    · refine gn_wkn [true, true, true, false, false, false] rfl ?_
      exact hk _ _ h
    · refine gr_aload_n dX3_worth_48 rfl rfl ?_
      refine gr_getR q_0_3 fl_X3_31 dX3_worth_49 ?_
      refine gr_iload_n dX3_worth_52 rfl rfl ?_
      obtain ⟨x2, hx2, h⟩ := gn_bd h
      refine gc_VNI (c_X1_comesThrough hx2) my_X1_comesThrough mv_X1_comesThrough ob_8 ml_X3_224 rfl rfl ⟨Nat.le_of_ble_eq_true rfl, Nat.le_of_ble_eq_true rfl⟩ (Nat.le_of_ble_eq_true rfl) dX3_worth_53 (fun fx2 => ?_)
      refine gr_if_eq (tgt := 99) dX3_worth_56 (by decide) h (fun _ h => ?_) (fun _ h => ?_)
      · refine gr_iinc (lv' := [some (.ref 0), some (.int v1), some (.int v2), some (.int (v3 + (1 : Int32))), none, none]) dX3_worth_99 rfl gk_i_1 (by decide) rfl ?_
        refine gr_goto (tgt := 37) dX3_worth_102 (by decide) ?_
        exact ih _ _ _ h
      · refine gr_aload_n dX3_worth_59 rfl rfl ?_
        refine gr_getR q_0_2 fl_X3_24 dX3_worth_60 ?_
        refine gr_iload_n dX3_worth_63 rfl rfl ?_
        obtain ⟨x3, hx3, h⟩ := gn_bd h
        refine gc_VNI (c_X0_worthOf hx3) my_X0_worthOf mv_X0_worthOf ob_7 ml_X3_227 rfl rfl ⟨Nat.le_of_ble_eq_true rfl, Nat.le_of_ble_eq_true rfl⟩ (Nat.le_of_ble_eq_true rfl) dX3_worth_64 (fun fx3 => ?_)
        refine gr_istore (lv' := [some (.ref 0), some (.int v1), some (.int v2), some (.int v3), some (.int x3), none]) dX3_worth_67 (by decide) rfl ?_
        refine gr_iload_n dX3_worth_69 rfl rfl ?_
        obtain ⟨x4, hx4, h⟩ := gn_bd h
        refine gc_SI (c_J6_bitCount_0f7a4 hx4) my_J6_bitCount_0f7a4 ms_J6_bitCount_0f7a4 ml_X3_140 rfl rfl ⟨Nat.le_of_ble_eq_true rfl, Nat.le_of_ble_eq_true rfl⟩ (Nat.le_of_ble_eq_true rfl) dX3_worth_70 (fun fx4 => ?_)
        refine gr_istore (lv' := [some (.ref 0), some (.int v1), some (.int v2), some (.int v3), some (.int x3), some (.int x4)]) dX3_worth_73 (by decide) rfl ?_
        refine gr_iload dX3_worth_75 rfl ?_
        refine gr_iload_n dX3_worth_77 rfl rfl ?_
        refine gr_icmp_gt (tgt := 93) dX3_worth_78 (by decide) h (fun _ h => ?_) (fun _ h => ?_)
        · refine gr_iload dX3_worth_93 rfl ?_
          refine gr_istore_n (lv' := [some (.ref 0), some (.int x3), some (.int v2), some (.int v3), some (.int x3), some (.int x4)]) dX3_worth_95 rfl (by decide) rfl ?_
          refine gr_iload dX3_worth_96 rfl ?_
          refine gr_istore_n (lv' := [some (.ref 0), some (.int x3), some (.int x4), some (.int v3), some (.int x3), some (.int x4)]) dX3_worth_98 rfl (by decide) rfl ?_
          refine gr_iinc (lv' := [some (.ref 0), some (.int x3), some (.int x4), some (.int (v3 + (1 : Int32))), some (.int x3), some (.int x4)]) dX3_worth_99 rfl gk_i_1 (by decide) rfl ?_
          refine gr_goto (tgt := 37) dX3_worth_102 (by decide) ?_
          refine gn_wkn [true, true, true, true, false, false] rfl ?_
          exact ih _ _ _ h
        · refine gr_iload dX3_worth_81 rfl ?_
          refine gr_iload_n dX3_worth_83 rfl rfl ?_
          refine gr_icmp_ne (tgt := 99) dX3_worth_84 (by decide) h (fun _ h => ?_) (fun _ h => ?_)
          · refine gr_iload dX3_worth_87 rfl ?_
            refine gr_iload_n dX3_worth_89 rfl rfl ?_
            refine gr_icmp_ge (tgt := 99) dX3_worth_90 (by decide) h (fun _ h => ?_) (fun _ h => ?_)
            · refine gr_iload dX3_worth_93 rfl ?_
              refine gr_istore_n (lv' := [some (.ref 0), some (.int x3), some (.int v2), some (.int v3), some (.int x3), some (.int x4)]) dX3_worth_95 rfl (by decide) rfl ?_
              refine gr_iload dX3_worth_96 rfl ?_
              refine gr_istore_n (lv' := [some (.ref 0), some (.int x3), some (.int x4), some (.int v3), some (.int x3), some (.int x4)]) dX3_worth_98 rfl (by decide) rfl ?_
              refine gr_iinc (lv' := [some (.ref 0), some (.int x3), some (.int x4), some (.int (v3 + (1 : Int32))), some (.int x3), some (.int x4)]) dX3_worth_99 rfl gk_i_1 (by decide) rfl ?_
              refine gr_goto (tgt := 37) dX3_worth_102 (by decide) ?_
              refine gn_wkn [true, true, true, true, false, false] rfl ?_
              exact ih _ _ _ h
            · refine gr_iinc (lv' := [some (.ref 0), some (.int v1), some (.int v2), some (.int (v3 + (1 : Int32))), some (.int x3), some (.int x4)]) dX3_worth_99 rfl gk_i_1 (by decide) rfl ?_
              refine gr_goto (tgt := 37) dX3_worth_102 (by decide) ?_
              refine gn_wkn [true, true, true, true, false, false] rfl ?_
              exact ih _ _ _ h
          · refine gr_iinc (lv' := [some (.ref 0), some (.int v1), some (.int v2), some (.int (v3 + (1 : Int32))), some (.int x3), some (.int x4)]) dX3_worth_99 rfl gk_i_1 (by decide) rfl ?_
            refine gr_goto (tgt := 37) dX3_worth_102 (by decide) ?_
            refine gn_wkn [true, true, true, true, false, false] rfl ?_
            exact ih _ _ _ h
def f_X3_worth (n : Nat) (m : gn_M) : Option (Int32 × gn_M) := (if (m.1 7 6) = 0 then some ((-4 : Int32), m) else (f_X1_survey n m 30).bind (fun x1 => L_X3_worth_37 n x1 (fun (e5 : Int32) (e6 : Int32) => gn_pf x1 0 10 e6 (fun m7 => some (e5, m7))) n (0 : Int32) (0 : Int32) (1 : Int32)))
set_option maxRecDepth 100000 in
set_option maxHeartbeats 4000000 in
theorem c_X3_worth {n : Nat} {m : gn_M} {v : Int32 × gn_M} (h : f_X3_worth n m = some v) : gn_Cl yX3_worth cX3_worth 6 (some .int) 4 88 [.ref 0] m (some (.int v.1)) v.2 := by
  rw [f_X3_worth] at h
  refine gn_met (lv := [some (.ref 0), none, none, none, none, none]) pl_X3 rfl rfl (Nat.le_of_ble_eq_true rfl) ?_
  refine gr_aload_n dX3_worth_0 rfl rfl ?_
  refine gr_getR q_0_2 fl_X3_24 dX3_worth_1 ?_
  refine gr_getIN q_7_6 fl_X3_126 dX3_worth_4 ?_
  refine gr_if_ne (tgt := 13) dX3_worth_7 (by decide) h (fun _ h => ?_) (fun _ h => ?_)
  · refine gr_bipush dX3_worth_10 gk_b_m4 ?_
    exact gq_retIM dX3_worth_12 rfl h
  · refine gr_aload_n dX3_worth_13 rfl rfl ?_
    refine gr_getR q_0_3 fl_X3_31 dX3_worth_14 ?_
    refine gr_aload_n dX3_worth_17 rfl rfl ?_
    refine gr_getR q_0_2 fl_X3_24 dX3_worth_18 ?_
    refine gr_aload_n dX3_worth_21 rfl rfl ?_
    refine gr_getR q_0_2 fl_X3_24 dX3_worth_22 ?_
    refine gr_getRN q_7_3 fl_X3_203 dX3_worth_25 ?_
    obtain ⟨x1, hx1, h⟩ := gn_bd h
    refine gc_VN0 (c_X1_survey s_30 hx1) my_X1_survey mv_X1_survey ob_8 ml_X3_206 rfl rfl ⟨Nat.le_of_ble_eq_true rfl, Nat.le_of_ble_eq_true rfl⟩ (Nat.le_of_ble_eq_true rfl) dX3_worth_28 (fun fx1 => ?_)
    refine gr_iconst dX3_worth_31 gk_i_0 ?_
    refine gr_istore_n (lv' := [some (.ref 0), some (.int (0 : Int32)), none, none, none, none]) dX3_worth_32 rfl (by decide) rfl ?_
    refine gr_iconst dX3_worth_33 gk_i_0 ?_
    refine gr_istore_n (lv' := [some (.ref 0), some (.int (0 : Int32)), some (.int (0 : Int32)), none, none, none]) dX3_worth_34 rfl (by decide) rfl ?_
    refine gr_iconst dX3_worth_35 gk_i_1 ?_
    refine gr_istore_n (lv' := [some (.ref 0), some (.int (0 : Int32)), some (.int (0 : Int32)), some (.int (1 : Int32)), none, none]) dX3_worth_36 rfl (by decide) rfl ?_
    refine l_X3_worth_37 (fun e5 e6 h => ?_) _ _ _ _ h
    refine gr_aload_n dX3_worth_105 rfl rfl ?_
    refine gr_iload_n dX3_worth_106 rfl rfl ?_
    refine gq_putI q_0_10 rfl rfl fl_X3_57 dX3_worth_107 h (fun m7 h => ?_)
    refine gr_iload_n dX3_worth_110 rfl rfl ?_
    exact gq_retIM dX3_worth_111 rfl h
def L_X1_waysFrom_5 (n : Nat) (m : gn_M) (a1 : Int32) (a2 : Int32) (k : Int32 → Option (Int32)) : Nat → Int32 → Int32 → Option (Int32)
  | 0, _, _ => none
  | f + 1, v3, v4 => (if v4 < (m.1 8 5) then (f_X3_isIn (a1 &&& a2) v4).bind (fun x1 => (if x1 = 0 then L_X1_waysFrom_5 n m a1 a2 k f v3 (v4 + (1 : Int32)) else gn_rd m 37 896 ((a1 * (7 : Int32)) + v4) (fun x2 => L_X1_waysFrom_5 n m a1 a2 k f (v3 + x2) (v4 + (1 : Int32))))) else k v3)
set_option maxRecDepth 100000 in
set_option maxHeartbeats 4000000 in
theorem l_X1_waysFrom_5 {n : Nat} {m : gn_M} {a1 : Int32} {a2 : Int32} {k : Int32 → Option (Int32)} {v : Int32} (hk : ∀ (e3 : Int32), k e3 = some v → gn_Go RX1 cX1_waysFrom 5 1 21 (some .int) none 46 [none, none, none, some (.int e3), none] [] m (some (.int v)) m) : ∀ (f : Nat) (v3 : Int32) (v4 : Int32), L_X1_waysFrom_5 n m a1 a2 k f v3 v4 = some v → gn_Go RX1 cX1_waysFrom 5 1 21 (some .int) none 5 [some (.ref 8), some (.int a1), some (.int a2), some (.int v3), some (.int v4)] [] m (some (.int v)) m := by
  intro f
  induction f with
  | zero =>
    intro v3 v4 h
    cases h
  | succ f ih =>
    intro v3 v4 h
    rw [L_X1_waysFrom_5] at h
    refine gr_iload dX1_waysFrom_5 rfl ?_
    refine gr_aload_n dX1_waysFrom_7 rfl rfl ?_
    refine gr_getI q_8_5 fl_X1_27 dX1_waysFrom_8 ?_
    refine gr_icmp_ge (tgt := 46) dX1_waysFrom_11 (by decide) h (fun _ h => ?_) (fun _ h => ?_)
    · refine gr_iload_n dX1_waysFrom_14 rfl rfl ?_
      refine gr_iload_n dX1_waysFrom_15 rfl rfl ?_
      refine gr_iand dX1_waysFrom_16 ?_
      refine gr_iload dX1_waysFrom_17 rfl ?_
      obtain ⟨x1, hx1, h⟩ := gn_bd h
      refine gc_SNI (c_X3_isIn hx1) my_X3_isIn ms_X3_isIn ml_X1_60 rfl rfl ⟨Nat.le_of_ble_eq_true rfl, Nat.le_of_ble_eq_true rfl⟩ (Nat.le_of_ble_eq_true rfl) dX1_waysFrom_19 (fun fx1 => ?_)
      refine gr_if_eq (tgt := 40) dX1_waysFrom_22 (by decide) h (fun _ h => ?_) (fun _ h => ?_)
      · refine gr_iinc (lv' := [some (.ref 8), some (.int a1), some (.int a2), some (.int v3), some (.int (v4 + (1 : Int32)))]) dX1_waysFrom_40 rfl gk_i_1 (by decide) rfl ?_
        refine gr_goto (tgt := 5) dX1_waysFrom_43 (by decide) ?_
        exact ih _ _ h
      · refine gr_iload_n dX1_waysFrom_25 rfl rfl ?_
        refine gr_aload_n dX1_waysFrom_26 rfl rfl ?_
        refine gr_getR q_8_4 fl_X1_24 dX1_waysFrom_27 ?_
        refine gr_iload_n dX1_waysFrom_30 rfl rfl ?_
        refine gr_bipush dX1_waysFrom_31 gk_b_7 ?_
        refine gr_imul dX1_waysFrom_33 ?_
        refine gr_iload dX1_waysFrom_34 rfl ?_
        refine gr_iadd dX1_waysFrom_36 ?_
        refine gq_iaload s_37 dX1_waysFrom_37 h (fun x2 h => ?_)
        refine gr_iadd dX1_waysFrom_38 ?_
        refine gr_istore_n (lv' := [some (.ref 8), some (.int a1), some (.int a2), some (.int (v3 + x2)), some (.int v4)]) dX1_waysFrom_39 rfl (by decide) rfl ?_
        refine gr_iinc (lv' := [some (.ref 8), some (.int a1), some (.int a2), some (.int (v3 + x2)), some (.int (v4 + (1 : Int32)))]) dX1_waysFrom_40 rfl gk_i_1 (by decide) rfl ?_
        refine gr_goto (tgt := 5) dX1_waysFrom_43 (by decide) ?_
        exact ih _ _ h
    · refine gn_wkn [false, false, false, true, false] rfl ?_
      exact hk _ h
def f_X1_waysFrom (n : Nat) (m : gn_M) (p0 : Int32) (p1 : Int32) : Option (Int32) := L_X1_waysFrom_5 n m p0 p1 (fun (e3 : Int32) => some e3) n (0 : Int32) (0 : Int32)
set_option maxRecDepth 100000 in
set_option maxHeartbeats 4000000 in
theorem c_X1_waysFrom {n : Nat} {m : gn_M} {p0 : Int32} {p1 : Int32} {v : Int32} (h : f_X1_waysFrom n m p0 p1 = some v) : gn_Cl yX1_waysFrom cX1_waysFrom 5 (some .int) 1 21 [.ref 8, .int p0, .int p1] m (some (.int v)) m := by
  rw [f_X1_waysFrom] at h
  refine gn_met (lv := [some (.ref 8), some (.int p0), some (.int p1), none, none]) pl_X1 rfl rfl (Nat.le_of_ble_eq_true rfl) ?_
  refine gr_iconst dX1_waysFrom_0 gk_i_0 ?_
  refine gr_istore_n (lv' := [some (.ref 8), some (.int p0), some (.int p1), some (.int (0 : Int32)), none]) dX1_waysFrom_1 rfl (by decide) rfl ?_
  refine gr_iconst dX1_waysFrom_2 gk_i_0 ?_
  refine gr_istore (lv' := [some (.ref 8), some (.int p0), some (.int p1), some (.int (0 : Int32)), some (.int (0 : Int32))]) dX1_waysFrom_3 (by decide) rfl ?_
  refine l_X1_waysFrom_5 (fun e3 h => ?_) _ _ _ h
  refine gr_iload_n dX1_waysFrom_46 rfl rfl ?_
  exact gq_retI dX1_waysFrom_47 rfl h
def L_X1_countWays_2 (n : Nat) (a1 : Int32) (k : gn_M → Option (gn_M)) : Nat → Int32 → gn_M → Option (gn_M)
  | 0, _, _ => none
  | f + 1, v2, m => (if v2 < (m.1 8 5) then (f_X3_isIn a1 v2).bind (fun x1 => (if x1 = 0 then L_X1_countWays_2 n a1 k f (v2 + (1 : Int32)) m else (if (a1 &&& (((1 : Int32) <<< (v2 &&& 31)) ^^^ (-1 : Int32))) = 0 then gn_wr m 37 896 ((a1 * (7 : Int32)) + v2) (1 : Int32) (fun m2 => L_X1_countWays_2 n a1 k f (v2 + (1 : Int32)) m2) else gn_rd m 33 7 v2 (fun x3 => (f_X1_waysFrom n m (a1 &&& (((1 : Int32) <<< (v2 &&& 31)) ^^^ (-1 : Int32))) x3).bind (fun x4 => gn_wr m 37 896 ((a1 * (7 : Int32)) + v2) x4 (fun m5 => L_X1_countWays_2 n a1 k f (v2 + (1 : Int32)) m5)))))) else k m)
set_option maxRecDepth 100000 in
set_option maxHeartbeats 4000000 in
theorem l_X1_countWays_2 {n : Nat} {a1 : Int32} {k : gn_M → Option (gn_M)} {v : gn_M} (hk : ∀ (m1 : gn_M), k m1 = some v → gn_Go RX1 cX1_countWays 4 2 45 none none 62 [none, none, none, none] [] m1 none v) : ∀ (f : Nat) (v2 : Int32) (m : gn_M), L_X1_countWays_2 n a1 k f v2 m = some v → gn_Go RX1 cX1_countWays 4 2 45 none none 2 [some (.ref 8), some (.int a1), some (.int v2), none] [] m none v := by
  intro f
  induction f with
  | zero =>
    intro v2 m h
    cases h
  | succ f ih =>
    intro v2 m h
    rw [L_X1_countWays_2] at h
    refine gr_iload_n dX1_countWays_2 rfl rfl ?_
    refine gr_aload_n dX1_countWays_3 rfl rfl ?_
    refine gr_getI q_8_5 fl_X1_27 dX1_countWays_4 ?_
    refine gr_icmp_ge (tgt := 62) dX1_countWays_7 (by decide) h (fun _ h => ?_) (fun _ h => ?_)
    · refine gr_iload_n dX1_countWays_10 rfl rfl ?_
      refine gr_iload_n dX1_countWays_11 rfl rfl ?_
      obtain ⟨x1, hx1, h⟩ := gn_bd h
      refine gc_SNI (c_X3_isIn hx1) my_X3_isIn ms_X3_isIn ml_X1_60 rfl rfl ⟨Nat.le_of_ble_eq_true rfl, Nat.le_of_ble_eq_true rfl⟩ (Nat.le_of_ble_eq_true rfl) dX1_countWays_12 (fun fx1 => ?_)
      refine gr_if_eq (tgt := 56) dX1_countWays_15 (by decide) h (fun _ h => ?_) (fun _ h => ?_)
      · refine gr_iinc (lv' := [some (.ref 8), some (.int a1), some (.int (v2 + (1 : Int32))), none]) dX1_countWays_56 rfl gk_i_1 (by decide) rfl ?_
        refine gr_goto (tgt := 2) dX1_countWays_59 (by decide) ?_
        exact ih _ _ h
      · refine gr_iload_n dX1_countWays_18 rfl rfl ?_
        refine gr_iconst dX1_countWays_19 gk_i_1 ?_
        refine gr_iload_n dX1_countWays_20 rfl rfl ?_
        refine gr_ishl dX1_countWays_21 ?_
        refine gr_iconst dX1_countWays_22 gk_i_m1 ?_
        refine gr_ixor dX1_countWays_23 ?_
        refine gr_iand dX1_countWays_24 ?_
        refine gr_istore_n (lv' := [some (.ref 8), some (.int a1), some (.int v2), some (.int (a1 &&& (((1 : Int32) <<< (v2 &&& 31)) ^^^ (-1 : Int32))))]) dX1_countWays_25 rfl (by decide) rfl ?_
        refine gr_aload_n dX1_countWays_26 rfl rfl ?_
        refine gr_getR q_8_4 fl_X1_24 dX1_countWays_27 ?_
        refine gr_iload_n dX1_countWays_30 rfl rfl ?_
        refine gr_bipush dX1_countWays_31 gk_b_7 ?_
        refine gr_imul dX1_countWays_33 ?_
        refine gr_iload_n dX1_countWays_34 rfl rfl ?_
        refine gr_iadd dX1_countWays_35 ?_
        refine gr_iload_n dX1_countWays_36 rfl rfl ?_
        refine gr_if_ne (tgt := 44) dX1_countWays_37 (by decide) h (fun _ h => ?_) (fun _ h => ?_)
        · refine gr_iconst dX1_countWays_40 gk_i_1 ?_
          refine gr_goto (tgt := 55) dX1_countWays_41 (by decide) ?_
          refine gq_iastore s_37 dX1_countWays_55 h (fun m2 h => ?_)
          refine gr_iinc (lv' := [some (.ref 8), some (.int a1), some (.int (v2 + (1 : Int32))), some (.int (a1 &&& (((1 : Int32) <<< (v2 &&& 31)) ^^^ (-1 : Int32))))]) dX1_countWays_56 rfl gk_i_1 (by decide) rfl ?_
          refine gr_goto (tgt := 2) dX1_countWays_59 (by decide) ?_
          refine gn_wkn [true, true, true, false] rfl ?_
          exact ih _ _ h
        · refine gr_aload_n dX1_countWays_44 rfl rfl ?_
          refine gr_iload_n dX1_countWays_45 rfl rfl ?_
          refine gr_aload_n dX1_countWays_46 rfl rfl ?_
          refine gr_getR q_8_0 fl_X1_9 dX1_countWays_47 ?_
          refine gr_iload_n dX1_countWays_50 rfl rfl ?_
          refine gq_iaload s_33 dX1_countWays_51 h (fun x3 h => ?_)
          obtain ⟨x4, hx4, h⟩ := gn_bd h
          refine gc_VI (c_X1_waysFrom hx4) my_X1_waysFrom mv_X1_waysFrom ob_8 ml_X1_102 rfl rfl ⟨Nat.le_of_ble_eq_true rfl, Nat.le_of_ble_eq_true rfl⟩ (Nat.le_of_ble_eq_true rfl) dX1_countWays_52 (fun fx4 => ?_)
          refine gq_iastore s_37 dX1_countWays_55 h (fun m5 h => ?_)
          refine gr_iinc (lv' := [some (.ref 8), some (.int a1), some (.int (v2 + (1 : Int32))), some (.int (a1 &&& (((1 : Int32) <<< (v2 &&& 31)) ^^^ (-1 : Int32))))]) dX1_countWays_56 rfl gk_i_1 (by decide) rfl ?_
          refine gr_goto (tgt := 2) dX1_countWays_59 (by decide) ?_
          refine gn_wkn [true, true, true, false] rfl ?_
          exact ih _ _ h
    · refine gn_wkn [false, false, false, false] rfl ?_
      exact hk _ h
def f_X1_countWays (n : Nat) (m : gn_M) (p0 : Int32) : Option (gn_M) := L_X1_countWays_2 n p0 (fun (m6 : gn_M) => some m6) n (0 : Int32) m
set_option maxRecDepth 100000 in
set_option maxHeartbeats 4000000 in
theorem c_X1_countWays {n : Nat} {m : gn_M} {p0 : Int32} {v : gn_M} (h : f_X1_countWays n m p0 = some v) : gn_Cl yX1_countWays cX1_countWays 4 none 2 45 [.ref 8, .int p0] m none v := by
  rw [f_X1_countWays] at h
  refine gn_met (lv := [some (.ref 8), some (.int p0), none, none]) pl_X1 rfl rfl (Nat.le_of_ble_eq_true rfl) ?_
  refine gr_iconst dX1_countWays_0 gk_i_0 ?_
  refine gr_istore_n (lv' := [some (.ref 8), some (.int p0), some (.int (0 : Int32)), none]) dX1_countWays_1 rfl (by decide) rfl ?_
  refine l_X1_countWays_2 (fun m6 h => ?_) _ _ _ h
  exact gq_retVM dX1_countWays_62 trivial h
def L_X1_ordersOfAll_11 (n : Nat) (k : gn_M → Option (Int32 × gn_M)) : Nat → Int32 → gn_M → Option (Int32 × gn_M)
  | 0, _, _ => none
  | f + 1, v1, m => (if (m.1 8 6) < v1 then k m else (f_X1_within m v1).bind (fun x1 => (if x1 = 0 then L_X1_ordersOfAll_11 n k f (v1 + (1 : Int32)) m else (f_X1_countWays n m v1).bind (fun x2 => L_X1_ordersOfAll_11 n k f (v1 + (1 : Int32)) x2))))
set_option maxRecDepth 100000 in
set_option maxHeartbeats 4000000 in
theorem l_X1_ordersOfAll_11 {n : Nat} {k : gn_M → Option (Int32 × gn_M)} {v : Int32 × gn_M} (hk : ∀ (m1 : gn_M), k m1 = some v → gn_Go RX1 cX1_ordersOfAll 2 3 68 (some .int) none 38 [some (.ref 8), none] [] m1 (some (.int v.1)) v.2) : ∀ (f : Nat) (v1 : Int32) (m : gn_M), L_X1_ordersOfAll_11 n k f v1 m = some v → gn_Go RX1 cX1_ordersOfAll 2 3 68 (some .int) none 11 [some (.ref 8), some (.int v1)] [] m (some (.int v.1)) v.2 := by
  intro f
  induction f with
  | zero =>
    intro v1 m h
    cases h
  | succ f ih =>
    intro v1 m h
    rw [L_X1_ordersOfAll_11] at h
    refine gr_iload_n dX1_ordersOfAll_11 rfl rfl ?_
    refine gr_aload_n dX1_ordersOfAll_12 rfl rfl ?_
    refine gr_getI q_8_6 fl_X1_31 dX1_ordersOfAll_13 ?_
    refine gr_icmp_gt (tgt := 38) dX1_ordersOfAll_16 (by decide) h (fun _ h => ?_) (fun _ h => ?_)
    · refine gn_wkn [true, false] rfl ?_
      exact hk _ h
    · refine gr_aload_n dX1_ordersOfAll_19 rfl rfl ?_
      refine gr_iload_n dX1_ordersOfAll_20 rfl rfl ?_
      obtain ⟨x1, hx1, h⟩ := gn_bd h
      refine gc_VI (c_X1_within hx1) my_X1_within mv_X1_within ob_8 ml_X1_73 rfl rfl ⟨Nat.le_of_ble_eq_true rfl, Nat.le_of_ble_eq_true rfl⟩ (Nat.le_of_ble_eq_true rfl) dX1_ordersOfAll_21 (fun fx1 => ?_)
      refine gr_if_eq (tgt := 32) dX1_ordersOfAll_24 (by decide) h (fun _ h => ?_) (fun _ h => ?_)
      · refine gr_iinc (lv' := [some (.ref 8), some (.int (v1 + (1 : Int32)))]) dX1_ordersOfAll_32 rfl gk_i_1 (by decide) rfl ?_
        refine gr_goto (tgt := 11) dX1_ordersOfAll_35 (by decide) ?_
        exact ih _ _ h
      · refine gr_aload_n dX1_ordersOfAll_27 rfl rfl ?_
        refine gr_iload_n dX1_ordersOfAll_28 rfl rfl ?_
        obtain ⟨x2, hx2, h⟩ := gn_bd h
        refine gc_V0 (c_X1_countWays hx2) my_X1_countWays mv_X1_countWays ob_8 ml_X1_98 rfl rfl ⟨Nat.le_of_ble_eq_true rfl, Nat.le_of_ble_eq_true rfl⟩ (Nat.le_of_ble_eq_true rfl) dX1_ordersOfAll_29 (fun fx2 => ?_)
        refine gr_iinc (lv' := [some (.ref 8), some (.int (v1 + (1 : Int32)))]) dX1_ordersOfAll_32 rfl gk_i_1 (by decide) rfl ?_
        refine gr_goto (tgt := 11) dX1_ordersOfAll_35 (by decide) ?_
        exact ih _ _ h
def f_X1_ordersOfAll (n : Nat) (m : gn_M) : Option (Int32 × gn_M) := (if (m.1 8 6) = 0 then some ((1 : Int32), m) else L_X1_ordersOfAll_11 n (fun (m3 : gn_M) => (f_X1_waysFrom n m3 (m3.1 8 6) (m3.1 8 7)).bind (fun x4 => some (x4, m3))) n (1 : Int32) m)
set_option maxRecDepth 100000 in
set_option maxHeartbeats 4000000 in
theorem c_X1_ordersOfAll {n : Nat} {m : gn_M} {v : Int32 × gn_M} (h : f_X1_ordersOfAll n m = some v) : gn_Cl yX1_ordersOfAll cX1_ordersOfAll 2 (some .int) 3 68 [.ref 8] m (some (.int v.1)) v.2 := by
  rw [f_X1_ordersOfAll] at h
  refine gn_met (lv := [some (.ref 8), none]) pl_X1 rfl rfl (Nat.le_of_ble_eq_true rfl) ?_
  refine gr_aload_n dX1_ordersOfAll_0 rfl rfl ?_
  refine gr_getI q_8_6 fl_X1_31 dX1_ordersOfAll_1 ?_
  refine gr_if_ne (tgt := 9) dX1_ordersOfAll_4 (by decide) h (fun _ h => ?_) (fun _ h => ?_)
  · refine gr_iconst dX1_ordersOfAll_7 gk_i_1 ?_
    exact gq_retIM dX1_ordersOfAll_8 rfl h
  · refine gr_iconst dX1_ordersOfAll_9 gk_i_1 ?_
    refine gr_istore_n (lv' := [some (.ref 8), some (.int (1 : Int32))]) dX1_ordersOfAll_10 rfl (by decide) rfl ?_
    refine l_X1_ordersOfAll_11 (fun m3 h => ?_) _ _ _ h
    refine gr_aload_n dX1_ordersOfAll_38 rfl rfl ?_
    refine gr_aload_n dX1_ordersOfAll_39 rfl rfl ?_
    refine gr_getI q_8_6 fl_X1_31 dX1_ordersOfAll_40 ?_
    refine gr_aload_n dX1_ordersOfAll_43 rfl rfl ?_
    refine gr_getI q_8_7 fl_X1_34 dX1_ordersOfAll_44 ?_
    obtain ⟨x4, hx4, h⟩ := gn_bd h
    refine gc_VI (c_X1_waysFrom hx4) my_X1_waysFrom mv_X1_waysFrom ob_8 ml_X1_102 rfl rfl ⟨Nat.le_of_ble_eq_true rfl, Nat.le_of_ble_eq_true rfl⟩ (Nat.le_of_ble_eq_true rfl) dX1_ordersOfAll_47 (fun fx4 => ?_)
    exact gq_retIM dX1_ordersOfAll_50 rfl h
def f_X3_orders (n : Nat) (m : gn_M) : Option (Int32 × gn_M) := (if (m.1 7 6) = 0 then some ((-4 : Int32), m) else (f_X1_survey n m 30).bind (fun x1 => (f_X1_ordersOfAll n x1).bind (fun x2 => some (x2.1, x2.2))))
set_option maxRecDepth 100000 in
set_option maxHeartbeats 4000000 in
theorem c_X3_orders {n : Nat} {m : gn_M} {v : Int32 × gn_M} (h : f_X3_orders n m = some v) : gn_Cl yX3_orders cX3_orders 1 (some .int) 4 89 [.ref 0] m (some (.int v.1)) v.2 := by
  rw [f_X3_orders] at h
  refine gn_met (lv := [some (.ref 0)]) pl_X3 rfl rfl (Nat.le_of_ble_eq_true rfl) ?_
  refine gr_aload_n dX3_orders_0 rfl rfl ?_
  refine gr_getR q_0_2 fl_X3_24 dX3_orders_1 ?_
  refine gr_getIN q_7_6 fl_X3_126 dX3_orders_4 ?_
  refine gr_if_ne (tgt := 13) dX3_orders_7 (by decide) h (fun _ h => ?_) (fun _ h => ?_)
  · refine gr_bipush dX3_orders_10 gk_b_m4 ?_
    exact gq_retIM dX3_orders_12 rfl h
  · refine gr_aload_n dX3_orders_13 rfl rfl ?_
    refine gr_getR q_0_3 fl_X3_31 dX3_orders_14 ?_
    refine gr_aload_n dX3_orders_17 rfl rfl ?_
    refine gr_getR q_0_2 fl_X3_24 dX3_orders_18 ?_
    refine gr_aload_n dX3_orders_21 rfl rfl ?_
    refine gr_getR q_0_2 fl_X3_24 dX3_orders_22 ?_
    refine gr_getRN q_7_3 fl_X3_203 dX3_orders_25 ?_
    obtain ⟨x1, hx1, h⟩ := gn_bd h
    refine gc_VN0 (c_X1_survey s_30 hx1) my_X1_survey mv_X1_survey ob_8 ml_X3_206 rfl rfl ⟨Nat.le_of_ble_eq_true rfl, Nat.le_of_ble_eq_true rfl⟩ (Nat.le_of_ble_eq_true rfl) dX3_orders_28 (fun fx1 => ?_)
    refine gr_aload_n dX3_orders_31 rfl rfl ?_
    refine gr_getR q_0_3 fl_X3_31 dX3_orders_32 ?_
    obtain ⟨x2, hx2, h⟩ := gn_bd h
    refine gc_VNI (c_X1_ordersOfAll hx2) my_X1_ordersOfAll mv_X1_ordersOfAll ob_8 ml_X3_230 rfl rfl ⟨Nat.le_of_ble_eq_true rfl, Nat.le_of_ble_eq_true rfl⟩ (Nat.le_of_ble_eq_true rfl) dX3_orders_35 (fun fx2 => ?_)
    exact gq_retIM dX3_orders_38 rfl h
def L_X1_mayAllCome_4 (n : Nat) (m : gn_M) (k : Int32 → Option (Int32)) : Nat → Int32 → Int32 → Option (Int32)
  | 0, _, _ => none
  | f + 1, v1, v2 => (if v2 < (m.1 8 5) then (f_X3_isIn (m.1 8 6) v2).bind (fun x1 => (if x1 = 0 then L_X1_mayAllCome_4 n m k f v1 (v2 + (1 : Int32)) else gn_rd m 33 7 v2 (fun x2 => L_X1_mayAllCome_4 n m k f (v1 ||| (x2 &&& (((1 : Int32) <<< (v2 &&& 31)) ^^^ (-1 : Int32)))) (v2 + (1 : Int32))))) else k v1)
set_option maxRecDepth 100000 in
set_option maxHeartbeats 4000000 in
theorem l_X1_mayAllCome_4 {n : Nat} {m : gn_M} {k : Int32 → Option (Int32)} {v : Int32} (hk : ∀ (e1 : Int32), k e1 = some v → gn_Go RX1 cX1_mayAllCome 3 1 21 (some .boolean) none 44 [some (.ref 8), some (.int e1), none] [] m (some (.int v)) m) : ∀ (f : Nat) (v1 : Int32) (v2 : Int32), L_X1_mayAllCome_4 n m k f v1 v2 = some v → gn_Go RX1 cX1_mayAllCome 3 1 21 (some .boolean) none 4 [some (.ref 8), some (.int v1), some (.int v2)] [] m (some (.int v)) m := by
  intro f
  induction f with
  | zero =>
    intro v1 v2 h
    cases h
  | succ f ih =>
    intro v1 v2 h
    rw [L_X1_mayAllCome_4] at h
    refine gr_iload_n dX1_mayAllCome_4 rfl rfl ?_
    refine gr_aload_n dX1_mayAllCome_5 rfl rfl ?_
    refine gr_getI q_8_5 fl_X1_27 dX1_mayAllCome_6 ?_
    refine gr_icmp_ge (tgt := 44) dX1_mayAllCome_9 (by decide) h (fun _ h => ?_) (fun _ h => ?_)
    · refine gr_aload_n dX1_mayAllCome_12 rfl rfl ?_
      refine gr_getI q_8_6 fl_X1_31 dX1_mayAllCome_13 ?_
      refine gr_iload_n dX1_mayAllCome_16 rfl rfl ?_
      obtain ⟨x1, hx1, h⟩ := gn_bd h
      refine gc_SNI (c_X3_isIn hx1) my_X3_isIn ms_X3_isIn ml_X1_60 rfl rfl ⟨Nat.le_of_ble_eq_true rfl, Nat.le_of_ble_eq_true rfl⟩ (Nat.le_of_ble_eq_true rfl) dX1_mayAllCome_17 (fun fx1 => ?_)
      refine gr_if_eq (tgt := 38) dX1_mayAllCome_20 (by decide) h (fun _ h => ?_) (fun _ h => ?_)
      · refine gr_iinc (lv' := [some (.ref 8), some (.int v1), some (.int (v2 + (1 : Int32)))]) dX1_mayAllCome_38 rfl gk_i_1 (by decide) rfl ?_
        refine gr_goto (tgt := 4) dX1_mayAllCome_41 (by decide) ?_
        exact ih _ _ h
      · refine gr_iload_n dX1_mayAllCome_23 rfl rfl ?_
        refine gr_aload_n dX1_mayAllCome_24 rfl rfl ?_
        refine gr_getR q_8_0 fl_X1_9 dX1_mayAllCome_25 ?_
        refine gr_iload_n dX1_mayAllCome_28 rfl rfl ?_
        refine gq_iaload s_33 dX1_mayAllCome_29 h (fun x2 h => ?_)
        refine gr_iconst dX1_mayAllCome_30 gk_i_1 ?_
        refine gr_iload_n dX1_mayAllCome_31 rfl rfl ?_
        refine gr_ishl dX1_mayAllCome_32 ?_
        refine gr_iconst dX1_mayAllCome_33 gk_i_m1 ?_
        refine gr_ixor dX1_mayAllCome_34 ?_
        refine gr_iand dX1_mayAllCome_35 ?_
        refine gr_ior dX1_mayAllCome_36 ?_
        refine gr_istore_n (lv' := [some (.ref 8), some (.int (v1 ||| (x2 &&& (((1 : Int32) <<< (v2 &&& 31)) ^^^ (-1 : Int32))))), some (.int v2)]) dX1_mayAllCome_37 rfl (by decide) rfl ?_
        refine gr_iinc (lv' := [some (.ref 8), some (.int (v1 ||| (x2 &&& (((1 : Int32) <<< (v2 &&& 31)) ^^^ (-1 : Int32))))), some (.int (v2 + (1 : Int32)))]) dX1_mayAllCome_38 rfl gk_i_1 (by decide) rfl ?_
        refine gr_goto (tgt := 4) dX1_mayAllCome_41 (by decide) ?_
        exact ih _ _ h
    · refine gn_wkn [true, true, false] rfl ?_
      exact hk _ h
def f_X1_mayAllCome (n : Nat) (m : gn_M) : Option (Int32) := L_X1_mayAllCome_4 n m (fun (e3 : Int32) => (if (((m.1 8 6) &&& (e3 ^^^ (-1 : Int32))) &&& ((m.1 8 7) ^^^ (-1 : Int32))) = 0 then (f_J6_bitCount_0f7a4 ((m.1 8 6) &&& (e3 ^^^ (-1 : Int32)))).bind (fun x4 => (if (1 : Int32) < x4 then some (0 : Int32) else some (1 : Int32))) else some (0 : Int32))) n (0 : Int32) (0 : Int32)
set_option maxRecDepth 100000 in
set_option maxHeartbeats 4000000 in
theorem c_X1_mayAllCome {n : Nat} {m : gn_M} {v : Int32} (h : f_X1_mayAllCome n m = some v) : gn_Cl yX1_mayAllCome cX1_mayAllCome 3 (some .boolean) 1 21 [.ref 8] m (some (.int v)) m := by
  rw [f_X1_mayAllCome] at h
  refine gn_met (lv := [some (.ref 8), none, none]) pl_X1 rfl rfl (Nat.le_of_ble_eq_true rfl) ?_
  refine gr_iconst dX1_mayAllCome_0 gk_i_0 ?_
  refine gr_istore_n (lv' := [some (.ref 8), some (.int (0 : Int32)), none]) dX1_mayAllCome_1 rfl (by decide) rfl ?_
  refine gr_iconst dX1_mayAllCome_2 gk_i_0 ?_
  refine gr_istore_n (lv' := [some (.ref 8), some (.int (0 : Int32)), some (.int (0 : Int32))]) dX1_mayAllCome_3 rfl (by decide) rfl ?_
  refine l_X1_mayAllCome_4 (fun e3 h => ?_) _ _ _ h
  refine gr_aload_n dX1_mayAllCome_44 rfl rfl ?_
  refine gr_getI q_8_6 fl_X1_31 dX1_mayAllCome_45 ?_
  refine gr_iload_n dX1_mayAllCome_48 rfl rfl ?_
  refine gr_iconst dX1_mayAllCome_49 gk_i_m1 ?_
  refine gr_ixor dX1_mayAllCome_50 ?_
  refine gr_iand dX1_mayAllCome_51 ?_
  refine gr_istore_n (lv' := [some (.ref 8), some (.int e3), some (.int ((m.1 8 6) &&& (e3 ^^^ (-1 : Int32))))]) dX1_mayAllCome_52 rfl (by decide) rfl ?_
  refine gr_iload_n dX1_mayAllCome_53 rfl rfl ?_
  refine gr_aload_n dX1_mayAllCome_54 rfl rfl ?_
  refine gr_getI q_8_7 fl_X1_34 dX1_mayAllCome_55 ?_
  refine gr_iconst dX1_mayAllCome_58 gk_i_m1 ?_
  refine gr_ixor dX1_mayAllCome_59 ?_
  refine gr_iand dX1_mayAllCome_60 ?_
  refine gr_if_ne (tgt := 76) dX1_mayAllCome_61 (by decide) h (fun _ h => ?_) (fun _ h => ?_)
  · refine gr_iload_n dX1_mayAllCome_64 rfl rfl ?_
    obtain ⟨x4, hx4, h⟩ := gn_bd h
    refine gc_SI (c_J6_bitCount_0f7a4 hx4) my_J6_bitCount_0f7a4 ms_J6_bitCount_0f7a4 ml_X1_67 rfl rfl ⟨Nat.le_of_ble_eq_true rfl, Nat.le_of_ble_eq_true rfl⟩ (Nat.le_of_ble_eq_true rfl) dX1_mayAllCome_65 (fun fx4 => ?_)
    refine gr_iconst dX1_mayAllCome_68 gk_i_1 ?_
    refine gr_icmp_gt (tgt := 76) dX1_mayAllCome_69 (by decide) h (fun _ h => ?_) (fun _ h => ?_)
    · refine gr_iconst dX1_mayAllCome_76 gk_i_0 ?_
      exact gq_retI dX1_mayAllCome_77 rfl h
    · refine gr_iconst dX1_mayAllCome_72 gk_i_1 ?_
      refine gr_goto (tgt := 77) dX1_mayAllCome_73 (by decide) ?_
      exact gq_retI dX1_mayAllCome_77 rfl h
  · refine gr_iconst dX1_mayAllCome_76 gk_i_0 ?_
    exact gq_retI dX1_mayAllCome_77 rfl h
def f_X3_allCome (n : Nat) (m : gn_M) (p0 : Nat) : Option (Int32 × gn_M) := (f_X1_look n m p0).bind (fun x1 => (f_X1_mayAllCome n x1).bind (fun x2 => (if x2 = 0 then some ((0 : Int32), x1) else (f_X1_chain n x1).bind (fun x3 => (f_X1_comesThrough x3 (x3.1 8 6)).bind (fun x4 => some (x4, x3))))))
set_option maxRecDepth 100000 in
set_option maxHeartbeats 4000000 in
theorem c_X3_allCome {n : Nat} {m : gn_M} {p0 : Nat} {v : Int32 × gn_M} (hp0 : gn_S[p0]? = some (.inl (0, 7))) (h : f_X3_allCome n m p0 = some v) : gn_Cl yX3_allCome cX3_allCome 2 (some .boolean) 3 66 [.ref 0, .ref p0] m (some (.int v.1)) v.2 := by
  rw [f_X3_allCome] at h
  refine gn_met (lv := [some (.ref 0), some (.ref p0)]) pl_X3 rfl rfl (Nat.le_of_ble_eq_true rfl) ?_
  refine gr_aload_n dX3_allCome_0 rfl rfl ?_
  refine gr_getR q_0_3 fl_X3_31 dX3_allCome_1 ?_
  refine gr_aload_n dX3_allCome_4 rfl rfl ?_
  refine gr_getR q_0_2 fl_X3_24 dX3_allCome_5 ?_
  refine gr_aload_n dX3_allCome_8 rfl rfl ?_
  obtain ⟨x1, hx1, h⟩ := gn_bd h
  refine gc_VN0 (c_X1_look hp0 hx1) my_X1_look mv_X1_look ob_8 ml_X3_321 rfl rfl ⟨Nat.le_of_ble_eq_true rfl, Nat.le_of_ble_eq_true rfl⟩ (Nat.le_of_ble_eq_true rfl) dX3_allCome_9 (fun fx1 => ?_)
  refine gr_aload_n dX3_allCome_12 rfl rfl ?_
  refine gr_getR q_0_3 fl_X3_31 dX3_allCome_13 ?_
  obtain ⟨x2, hx2, h⟩ := gn_bd h
  refine gc_VNI (c_X1_mayAllCome hx2) my_X1_mayAllCome mv_X1_mayAllCome ob_8 ml_X3_324 rfl rfl ⟨Nat.le_of_ble_eq_true rfl, Nat.le_of_ble_eq_true rfl⟩ (Nat.le_of_ble_eq_true rfl) dX3_allCome_16 (fun fx2 => ?_)
  refine gr_if_ne (tgt := 24) dX3_allCome_19 (by decide) h (fun _ h => ?_) (fun _ h => ?_)
  · refine gr_iconst dX3_allCome_22 gk_i_0 ?_
    exact gq_retIM dX3_allCome_23 rfl h
  · refine gr_aload_n dX3_allCome_24 rfl rfl ?_
    refine gr_getR q_0_3 fl_X3_31 dX3_allCome_25 ?_
    obtain ⟨x3, hx3, h⟩ := gn_bd h
    refine gc_VN0 (c_X1_chain hx3) my_X1_chain mv_X1_chain ob_8 ml_X3_328 rfl rfl ⟨Nat.le_of_ble_eq_true rfl, Nat.le_of_ble_eq_true rfl⟩ (Nat.le_of_ble_eq_true rfl) dX3_allCome_28 (fun fx3 => ?_)
    refine gr_aload_n dX3_allCome_31 rfl rfl ?_
    refine gr_getR q_0_3 fl_X3_31 dX3_allCome_32 ?_
    refine gr_aload_n dX3_allCome_35 rfl rfl ?_
    refine gr_getR q_0_3 fl_X3_31 dX3_allCome_36 ?_
    refine gr_getIN q_8_6 fl_X3_216 dX3_allCome_39 ?_
    obtain ⟨x4, hx4, h⟩ := gn_bd h
    refine gc_VNI (c_X1_comesThrough hx4) my_X1_comesThrough mv_X1_comesThrough ob_8 ml_X3_224 rfl rfl ⟨Nat.le_of_ble_eq_true rfl, Nat.le_of_ble_eq_true rfl⟩ (Nat.le_of_ble_eq_true rfl) dX3_allCome_42 (fun fx4 => ?_)
    exact gq_retIM dX3_allCome_45 fx4 h
def L_X3_firstMeeting_18 (n : Nat) (a1 : Nat) (a2 : Nat) (a3 : Int32) (k : gn_M → Option (Int32 × gn_M)) : Nat → Int32 → gn_M → Option (Int32 × gn_M)
  | 0, _, _ => none
  | f + 1, v4, m => (if v4 < (m.1 7 6) then (f_X0_canMeet m a3 v4).bind (fun x1 => (if x1 = 0 then L_X3_firstMeeting_18 n a1 a2 a3 k f (v4 + (1 : Int32)) m else (f_X0_meetAside m a3 v4 a1 a2).bind (fun x2 => (f_X3_allCome n x2 a2).bind (fun x3 => (if x3.1 = 0 then L_X3_firstMeeting_18 n a1 a2 a3 k f (v4 + (1 : Int32)) x3.2 else some ((((10 : Int32) * a3) + v4), x3.2)))))) else k m)
set_option maxRecDepth 100000 in
set_option maxHeartbeats 4000000 in
theorem l_X3_firstMeeting_18 {n : Nat} {a1 : Nat} {a2 : Nat} {a3 : Int32} {k : gn_M → Option (Int32 × gn_M)} {v : Int32 × gn_M} (ha1 : gn_S[a1]? = some (.inl (0, 7))) (ha2 : gn_S[a2]? = some (.inl (0, 7))) (hk : ∀ (m1 : gn_M), k m1 = some v → gn_Go RX3 cX3_firstMeeting 5 4 87 (some .int) none 77 [some (.ref 0), some (.ref a1), some (.ref a2), some (.int a3), none] [] m1 (some (.int v.1)) v.2) : ∀ (f : Nat) (v4 : Int32) (m : gn_M), L_X3_firstMeeting_18 n a1 a2 a3 k f v4 m = some v → gn_Go RX3 cX3_firstMeeting 5 4 87 (some .int) none 18 [some (.ref 0), some (.ref a1), some (.ref a2), some (.int a3), some (.int v4)] [] m (some (.int v.1)) v.2 := by
  intro f
  induction f with
  | zero =>
    intro v4 m h
    cases h
  | succ f ih =>
    intro v4 m h
    rw [L_X3_firstMeeting_18] at h
    refine gr_iload dX3_firstMeeting_18 rfl ?_
    refine gr_aload_n dX3_firstMeeting_20 rfl rfl ?_
    refine gr_getR q_0_2 fl_X3_24 dX3_firstMeeting_21 ?_
    refine gr_getIN q_7_6 fl_X3_126 dX3_firstMeeting_24 ?_
    refine gr_icmp_ge (tgt := 77) dX3_firstMeeting_27 (by decide) h (fun _ h => ?_) (fun _ h => ?_)
    · refine gr_aload_n dX3_firstMeeting_30 rfl rfl ?_
      refine gr_getR q_0_2 fl_X3_24 dX3_firstMeeting_31 ?_
      refine gr_iload_n dX3_firstMeeting_34 rfl rfl ?_
      refine gr_iload dX3_firstMeeting_35 rfl ?_
      obtain ⟨x1, hx1, h⟩ := gn_bd h
      refine gc_VNI (c_X0_canMeet hx1) my_X0_canMeet mv_X0_canMeet ob_7 ml_X3_162 rfl rfl ⟨Nat.le_of_ble_eq_true rfl, Nat.le_of_ble_eq_true rfl⟩ (Nat.le_of_ble_eq_true rfl) dX3_firstMeeting_37 (fun fx1 => ?_)
      refine gr_if_eq (tgt := 71) dX3_firstMeeting_40 (by decide) h (fun _ h => ?_) (fun _ h => ?_)
      · refine gr_iinc (lv' := [some (.ref 0), some (.ref a1), some (.ref a2), some (.int a3), some (.int (v4 + (1 : Int32)))]) dX3_firstMeeting_71 rfl gk_i_1 (by decide) rfl ?_
        refine gr_goto (tgt := 18) dX3_firstMeeting_74 (by decide) ?_
        exact ih _ _ h
      · refine gr_aload_n dX3_firstMeeting_43 rfl rfl ?_
        refine gr_getR q_0_2 fl_X3_24 dX3_firstMeeting_44 ?_
        refine gr_iload_n dX3_firstMeeting_47 rfl rfl ?_
        refine gr_iload dX3_firstMeeting_48 rfl ?_
        refine gr_aload_n dX3_firstMeeting_50 rfl rfl ?_
        refine gr_aload_n dX3_firstMeeting_51 rfl rfl ?_
        obtain ⟨x2, hx2, h⟩ := gn_bd h
        refine gc_VN0 (c_X0_meetAside ha1 ha2 hx2) my_X0_meetAside mv_X0_meetAside ob_7 ml_X3_331 rfl rfl ⟨Nat.le_of_ble_eq_true rfl, Nat.le_of_ble_eq_true rfl⟩ (Nat.le_of_ble_eq_true rfl) dX3_firstMeeting_52 (fun fx2 => ?_)
        refine gr_aload_n dX3_firstMeeting_55 rfl rfl ?_
        refine gr_aload_n dX3_firstMeeting_56 rfl rfl ?_
        obtain ⟨x3, hx3, h⟩ := gn_bd h
        refine gc_VI (c_X3_allCome ha2 hx3) my_X3_allCome mv_X3_allCome ob_0 ml_X3_233 rfl rfl ⟨Nat.le_of_ble_eq_true rfl, Nat.le_of_ble_eq_true rfl⟩ (Nat.le_of_ble_eq_true rfl) dX3_firstMeeting_57 (fun fx3 => ?_)
        refine gr_if_eq (tgt := 71) dX3_firstMeeting_60 (by decide) h (fun _ h => ?_) (fun _ h => ?_)
        · refine gr_iinc (lv' := [some (.ref 0), some (.ref a1), some (.ref a2), some (.int a3), some (.int (v4 + (1 : Int32)))]) dX3_firstMeeting_71 rfl gk_i_1 (by decide) rfl ?_
          refine gr_goto (tgt := 18) dX3_firstMeeting_74 (by decide) ?_
          exact ih _ _ h
        · refine gr_bipush dX3_firstMeeting_63 gk_b_10 ?_
          refine gr_iload_n dX3_firstMeeting_65 rfl rfl ?_
          refine gr_imul dX3_firstMeeting_66 ?_
          refine gr_iload dX3_firstMeeting_67 rfl ?_
          refine gr_iadd dX3_firstMeeting_69 ?_
          exact gq_retIM dX3_firstMeeting_70 rfl h
    · refine gn_wkn [true, true, true, true, false] rfl ?_
      exact hk _ h
def L_X3_firstMeeting_2 (n : Nat) (a1 : Nat) (a2 : Nat) (k : gn_M → Option (Int32 × gn_M)) : Nat → Int32 → gn_M → Option (Int32 × gn_M)
  | 0, _, _ => none
  | f + 1, v3, m => (if v3 < (m.1 7 6) then L_X3_firstMeeting_18 n a1 a2 v3 (fun (m4 : gn_M) => L_X3_firstMeeting_2 n a1 a2 k f (v3 + (1 : Int32)) m4) n (v3 + (1 : Int32)) m else k m)
set_option maxRecDepth 100000 in
set_option maxHeartbeats 4000000 in
theorem l_X3_firstMeeting_2 {n : Nat} {a1 : Nat} {a2 : Nat} {k : gn_M → Option (Int32 × gn_M)} {v : Int32 × gn_M} (ha1 : gn_S[a1]? = some (.inl (0, 7))) (ha2 : gn_S[a2]? = some (.inl (0, 7))) (hk : ∀ (m1 : gn_M), k m1 = some v → gn_Go RX3 cX3_firstMeeting 5 4 87 (some .int) none 83 [none, none, none, none, none] [] m1 (some (.int v.1)) v.2) : ∀ (f : Nat) (v3 : Int32) (m : gn_M), L_X3_firstMeeting_2 n a1 a2 k f v3 m = some v → gn_Go RX3 cX3_firstMeeting 5 4 87 (some .int) none 2 [some (.ref 0), some (.ref a1), some (.ref a2), some (.int v3), none] [] m (some (.int v.1)) v.2 := by
  intro f
  induction f with
  | zero =>
    intro v3 m h
    cases h
  | succ f ih =>
    intro v3 m h
    rw [L_X3_firstMeeting_2] at h
    refine gr_iload_n dX3_firstMeeting_2 rfl rfl ?_
    refine gr_aload_n dX3_firstMeeting_3 rfl rfl ?_
    refine gr_getR q_0_2 fl_X3_24 dX3_firstMeeting_4 ?_
    refine gr_getIN q_7_6 fl_X3_126 dX3_firstMeeting_7 ?_
    refine gr_icmp_ge (tgt := 83) dX3_firstMeeting_10 (by decide) h (fun _ h => ?_) (fun _ h => ?_)
    · refine gr_iload_n dX3_firstMeeting_13 rfl rfl ?_
      refine gr_iconst dX3_firstMeeting_14 gk_i_1 ?_
      refine gr_iadd dX3_firstMeeting_15 ?_
      refine gr_istore (lv' := [some (.ref 0), some (.ref a1), some (.ref a2), some (.int v3), some (.int (v3 + (1 : Int32)))]) dX3_firstMeeting_16 (by decide) rfl ?_
      refine l_X3_firstMeeting_18 ha1 ha2 (fun m4 h => ?_) _ _ _ h
      refine gr_iinc (lv' := [some (.ref 0), some (.ref a1), some (.ref a2), some (.int (v3 + (1 : Int32))), none]) dX3_firstMeeting_77 rfl gk_i_1 (by decide) rfl ?_
      refine gr_goto (tgt := 2) dX3_firstMeeting_80 (by decide) ?_
      exact ih _ _ h
    · refine gn_wkn [false, false, false, false, false] rfl ?_
      exact hk _ h
def f_X3_firstMeeting (n : Nat) (m : gn_M) (p0 : Nat) (p1 : Nat) : Option (Int32 × gn_M) := L_X3_firstMeeting_2 n p0 p1 (fun (m5 : gn_M) => some ((-9 : Int32), m5)) n (0 : Int32) m
set_option maxRecDepth 100000 in
set_option maxHeartbeats 4000000 in
theorem c_X3_firstMeeting {n : Nat} {m : gn_M} {p0 : Nat} {p1 : Nat} {v : Int32 × gn_M} (hp0 : gn_S[p0]? = some (.inl (0, 7))) (hp1 : gn_S[p1]? = some (.inl (0, 7))) (h : f_X3_firstMeeting n m p0 p1 = some v) : gn_Cl yX3_firstMeeting cX3_firstMeeting 5 (some .int) 4 87 [.ref 0, .ref p0, .ref p1] m (some (.int v.1)) v.2 := by
  rw [f_X3_firstMeeting] at h
  refine gn_met (lv := [some (.ref 0), some (.ref p0), some (.ref p1), none, none]) pl_X3 rfl rfl (Nat.le_of_ble_eq_true rfl) ?_
  refine gr_iconst dX3_firstMeeting_0 gk_i_0 ?_
  refine gr_istore_n (lv' := [some (.ref 0), some (.ref p0), some (.ref p1), some (.int (0 : Int32)), none]) dX3_firstMeeting_1 rfl (by decide) rfl ?_
  refine l_X3_firstMeeting_2 hp0 hp1 (fun m5 h => ?_) _ _ _ h
  refine gr_bipush dX3_firstMeeting_83 gk_b_m9 ?_
  exact gq_retIM dX3_firstMeeting_85 rfl h
def L_X3_firstTwoMeetings_17 (n : Nat) (a1 : Int32) (k : gn_M → Option (Int32 × gn_M)) : Nat → Int32 → gn_M → Option (Int32 × gn_M)
  | 0, _, _ => none
  | f + 1, v2, m => (if v2 < (m.1 7 6) then (f_X0_canMeet m a1 v2).bind (fun x1 => (if x1 = 0 then L_X3_firstTwoMeetings_17 n a1 k f (v2 + (1 : Int32)) m else (f_X0_meetAside m a1 v2 30 24).bind (fun x2 => (f_X3_firstMeeting n x2 24 25).bind (fun x3 => (if x3.1 = (-9 : Int32) then L_X3_firstTwoMeetings_17 n a1 k f (v2 + (1 : Int32)) x3.2 else some ((((100 : Int32) * (((10 : Int32) * a1) + v2)) + x3.1), x3.2)))))) else k m)
set_option maxRecDepth 100000 in
set_option maxHeartbeats 4000000 in
theorem l_X3_firstTwoMeetings_17 {n : Nat} {a1 : Int32} {k : gn_M → Option (Int32 × gn_M)} {v : Int32 × gn_M} (hk : ∀ (m1 : gn_M), k m1 = some v → gn_Go RX3 cX3_firstTwoMeetings 4 5 111 (some .int) none 97 [some (.ref 0), some (.int a1), none, none] [] m1 (some (.int v.1)) v.2) : ∀ (f : Nat) (v2 : Int32) (m : gn_M), L_X3_firstTwoMeetings_17 n a1 k f v2 m = some v → gn_Go RX3 cX3_firstTwoMeetings 4 5 111 (some .int) none 17 [some (.ref 0), some (.int a1), some (.int v2), none] [] m (some (.int v.1)) v.2 := by
  intro f
  induction f with
  | zero =>
    intro v2 m h
    cases h
  | succ f ih =>
    intro v2 m h
    rw [L_X3_firstTwoMeetings_17] at h
    refine gr_iload_n dX3_firstTwoMeetings_17 rfl rfl ?_
    refine gr_aload_n dX3_firstTwoMeetings_18 rfl rfl ?_
    refine gr_getR q_0_2 fl_X3_24 dX3_firstTwoMeetings_19 ?_
    refine gr_getIN q_7_6 fl_X3_126 dX3_firstTwoMeetings_22 ?_
    refine gr_icmp_ge (tgt := 97) dX3_firstTwoMeetings_25 (by decide) h (fun _ h => ?_) (fun _ h => ?_)
    · refine gr_aload_n dX3_firstTwoMeetings_28 rfl rfl ?_
      refine gr_getR q_0_2 fl_X3_24 dX3_firstTwoMeetings_29 ?_
      refine gr_iload_n dX3_firstTwoMeetings_32 rfl rfl ?_
      refine gr_iload_n dX3_firstTwoMeetings_33 rfl rfl ?_
      obtain ⟨x1, hx1, h⟩ := gn_bd h
      refine gc_VNI (c_X0_canMeet hx1) my_X0_canMeet mv_X0_canMeet ob_7 ml_X3_162 rfl rfl ⟨Nat.le_of_ble_eq_true rfl, Nat.le_of_ble_eq_true rfl⟩ (Nat.le_of_ble_eq_true rfl) dX3_firstTwoMeetings_34 (fun fx1 => ?_)
      refine gr_if_eq (tgt := 91) dX3_firstTwoMeetings_37 (by decide) h (fun _ h => ?_) (fun _ h => ?_)
      · refine gr_iinc (lv' := [some (.ref 0), some (.int a1), some (.int (v2 + (1 : Int32))), none]) dX3_firstTwoMeetings_91 rfl gk_i_1 (by decide) rfl ?_
        refine gr_goto (tgt := 17) dX3_firstTwoMeetings_94 (by decide) ?_
        exact ih _ _ h
      · refine gr_aload_n dX3_firstTwoMeetings_40 rfl rfl ?_
        refine gr_getR q_0_2 fl_X3_24 dX3_firstTwoMeetings_41 ?_
        refine gr_iload_n dX3_firstTwoMeetings_44 rfl rfl ?_
        refine gr_iload_n dX3_firstTwoMeetings_45 rfl rfl ?_
        refine gr_aload_n dX3_firstTwoMeetings_46 rfl rfl ?_
        refine gr_getR q_0_2 fl_X3_24 dX3_firstTwoMeetings_47 ?_
        refine gr_getRN q_7_3 fl_X3_203 dX3_firstTwoMeetings_50 ?_
        refine gr_aload_n dX3_firstTwoMeetings_53 rfl rfl ?_
        refine gr_getR q_0_6 fl_X3_44 dX3_firstTwoMeetings_54 ?_
        obtain ⟨x2, hx2, h⟩ := gn_bd h
        refine gc_VN0 (c_X0_meetAside s_30 s_24 hx2) my_X0_meetAside mv_X0_meetAside ob_7 ml_X3_331 rfl rfl ⟨Nat.le_of_ble_eq_true rfl, Nat.le_of_ble_eq_true rfl⟩ (Nat.le_of_ble_eq_true rfl) dX3_firstTwoMeetings_57 (fun fx2 => ?_)
        refine gr_aload_n dX3_firstTwoMeetings_60 rfl rfl ?_
        refine gr_aload_n dX3_firstTwoMeetings_61 rfl rfl ?_
        refine gr_getR q_0_6 fl_X3_44 dX3_firstTwoMeetings_62 ?_
        refine gr_aload_n dX3_firstTwoMeetings_65 rfl rfl ?_
        refine gr_getR q_0_7 fl_X3_47 dX3_firstTwoMeetings_66 ?_
        obtain ⟨x3, hx3, h⟩ := gn_bd h
        refine gc_VI (c_X3_firstMeeting s_24 s_25 hx3) my_X3_firstMeeting mv_X3_firstMeeting ob_0 ml_X3_237 rfl rfl ⟨Nat.le_of_ble_eq_true rfl, Nat.le_of_ble_eq_true rfl⟩ (Nat.le_of_ble_eq_true rfl) dX3_firstTwoMeetings_69 (fun fx3 => ?_)
        refine gr_istore_n (lv' := [some (.ref 0), some (.int a1), some (.int v2), some (.int x3.1)]) dX3_firstTwoMeetings_72 rfl (by decide) rfl ?_
        refine gr_iload_n dX3_firstTwoMeetings_73 rfl rfl ?_
        refine gr_bipush dX3_firstTwoMeetings_74 gk_b_m9 ?_
        refine gr_icmp_eq (tgt := 91) dX3_firstTwoMeetings_76 (by decide) h (fun _ h => ?_) (fun _ h => ?_)
        · refine gr_iinc (lv' := [some (.ref 0), some (.int a1), some (.int (v2 + (1 : Int32))), some (.int x3.1)]) dX3_firstTwoMeetings_91 rfl gk_i_1 (by decide) rfl ?_
          refine gr_goto (tgt := 17) dX3_firstTwoMeetings_94 (by decide) ?_
          refine gn_wkn [true, true, true, false] rfl ?_
          exact ih _ _ h
        · refine gr_bipush dX3_firstTwoMeetings_79 gk_b_100 ?_
          refine gr_bipush dX3_firstTwoMeetings_81 gk_b_10 ?_
          refine gr_iload_n dX3_firstTwoMeetings_83 rfl rfl ?_
          refine gr_imul dX3_firstTwoMeetings_84 ?_
          refine gr_iload_n dX3_firstTwoMeetings_85 rfl rfl ?_
          refine gr_iadd dX3_firstTwoMeetings_86 ?_
          refine gr_imul dX3_firstTwoMeetings_87 ?_
          refine gr_iload_n dX3_firstTwoMeetings_88 rfl rfl ?_
          refine gr_iadd dX3_firstTwoMeetings_89 ?_
          exact gq_retIM dX3_firstTwoMeetings_90 rfl h
    · refine gn_wkn [true, true, false, false] rfl ?_
      exact hk _ h
def L_X3_firstTwoMeetings_2 (n : Nat) (k : gn_M → Option (Int32 × gn_M)) : Nat → Int32 → gn_M → Option (Int32 × gn_M)
  | 0, _, _ => none
  | f + 1, v1, m => (if v1 < (m.1 7 6) then L_X3_firstTwoMeetings_17 n v1 (fun (m4 : gn_M) => L_X3_firstTwoMeetings_2 n k f (v1 + (1 : Int32)) m4) n (v1 + (1 : Int32)) m else k m)
set_option maxRecDepth 100000 in
set_option maxHeartbeats 4000000 in
theorem l_X3_firstTwoMeetings_2 {n : Nat} {k : gn_M → Option (Int32 × gn_M)} {v : Int32 × gn_M} (hk : ∀ (m1 : gn_M), k m1 = some v → gn_Go RX3 cX3_firstTwoMeetings 4 5 111 (some .int) none 103 [none, none, none, none] [] m1 (some (.int v.1)) v.2) : ∀ (f : Nat) (v1 : Int32) (m : gn_M), L_X3_firstTwoMeetings_2 n k f v1 m = some v → gn_Go RX3 cX3_firstTwoMeetings 4 5 111 (some .int) none 2 [some (.ref 0), some (.int v1), none, none] [] m (some (.int v.1)) v.2 := by
  intro f
  induction f with
  | zero =>
    intro v1 m h
    cases h
  | succ f ih =>
    intro v1 m h
    rw [L_X3_firstTwoMeetings_2] at h
    refine gr_iload_n dX3_firstTwoMeetings_2 rfl rfl ?_
    refine gr_aload_n dX3_firstTwoMeetings_3 rfl rfl ?_
    refine gr_getR q_0_2 fl_X3_24 dX3_firstTwoMeetings_4 ?_
    refine gr_getIN q_7_6 fl_X3_126 dX3_firstTwoMeetings_7 ?_
    refine gr_icmp_ge (tgt := 103) dX3_firstTwoMeetings_10 (by decide) h (fun _ h => ?_) (fun _ h => ?_)
    · refine gr_iload_n dX3_firstTwoMeetings_13 rfl rfl ?_
      refine gr_iconst dX3_firstTwoMeetings_14 gk_i_1 ?_
      refine gr_iadd dX3_firstTwoMeetings_15 ?_
      refine gr_istore_n (lv' := [some (.ref 0), some (.int v1), some (.int (v1 + (1 : Int32))), none]) dX3_firstTwoMeetings_16 rfl (by decide) rfl ?_
      refine l_X3_firstTwoMeetings_17 (fun m4 h => ?_) _ _ _ h
      refine gr_iinc (lv' := [some (.ref 0), some (.int (v1 + (1 : Int32))), none, none]) dX3_firstTwoMeetings_97 rfl gk_i_1 (by decide) rfl ?_
      refine gr_goto (tgt := 2) dX3_firstTwoMeetings_100 (by decide) ?_
      exact ih _ _ h
    · refine gn_wkn [false, false, false, false] rfl ?_
      exact hk _ h
def f_X3_firstTwoMeetings (n : Nat) (m : gn_M) : Option (Int32 × gn_M) := L_X3_firstTwoMeetings_2 n (fun (m5 : gn_M) => some ((-9 : Int32), m5)) n (0 : Int32) m
set_option maxRecDepth 100000 in
set_option maxHeartbeats 4000000 in
theorem c_X3_firstTwoMeetings {n : Nat} {m : gn_M} {v : Int32 × gn_M} (h : f_X3_firstTwoMeetings n m = some v) : gn_Cl yX3_firstTwoMeetings cX3_firstTwoMeetings 4 (some .int) 5 111 [.ref 0] m (some (.int v.1)) v.2 := by
  rw [f_X3_firstTwoMeetings] at h
  refine gn_met (lv := [some (.ref 0), none, none, none]) pl_X3 rfl rfl (Nat.le_of_ble_eq_true rfl) ?_
  refine gr_iconst dX3_firstTwoMeetings_0 gk_i_0 ?_
  refine gr_istore_n (lv' := [some (.ref 0), some (.int (0 : Int32)), none, none]) dX3_firstTwoMeetings_1 rfl (by decide) rfl ?_
  refine l_X3_firstTwoMeetings_2 (fun m5 h => ?_) _ _ _ h
  refine gr_bipush dX3_firstTwoMeetings_103 gk_b_m9 ?_
  exact gq_retIM dX3_firstTwoMeetings_105 rfl h
def f_X3_meetings (n : Nat) (m : gn_M) : Option (Int32 × gn_M) := (if (m.1 7 6) = 0 then some ((-4 : Int32), m) else (f_X3_allCome n m 30).bind (fun x1 => (if x1.1 = 0 then (f_X3_firstMeeting n x1.2 30 24).bind (fun x2 => (if x2.1 = (-9 : Int32) then (f_X3_firstTwoMeetings n x2.2).bind (fun x3 => (if x3.1 = (-9 : Int32) then some ((-9 : Int32), x3.2) else gn_pf x3.2 0 10 x3.1 (fun m4 => some ((2 : Int32), m4)))) else gn_pf x2.2 0 10 x2.1 (fun m5 => some ((1 : Int32), m5)))) else gn_pf x1.2 0 10 (0 : Int32) (fun m6 => some ((0 : Int32), m6)))))
set_option maxRecDepth 100000 in
set_option maxHeartbeats 4000000 in
theorem c_X3_meetings {n : Nat} {m : gn_M} {v : Int32 × gn_M} (h : f_X3_meetings n m = some v) : gn_Cl yX3_meetings cX3_meetings 3 (some .int) 6 134 [.ref 0] m (some (.int v.1)) v.2 := by
  rw [f_X3_meetings] at h
  refine gn_met (lv := [some (.ref 0), none, none]) pl_X3 rfl rfl (Nat.le_of_ble_eq_true rfl) ?_
  refine gr_aload_n dX3_meetings_0 rfl rfl ?_
  refine gr_getR q_0_2 fl_X3_24 dX3_meetings_1 ?_
  refine gr_getIN q_7_6 fl_X3_126 dX3_meetings_4 ?_
  refine gr_if_ne (tgt := 13) dX3_meetings_7 (by decide) h (fun _ h => ?_) (fun _ h => ?_)
  · refine gr_bipush dX3_meetings_10 gk_b_m4 ?_
    exact gq_retIM dX3_meetings_12 rfl h
  · refine gr_aload_n dX3_meetings_13 rfl rfl ?_
    refine gr_aload_n dX3_meetings_14 rfl rfl ?_
    refine gr_getR q_0_2 fl_X3_24 dX3_meetings_15 ?_
    refine gr_getRN q_7_3 fl_X3_203 dX3_meetings_18 ?_
    obtain ⟨x1, hx1, h⟩ := gn_bd h
    refine gc_VI (c_X3_allCome s_30 hx1) my_X3_allCome mv_X3_allCome ob_0 ml_X3_233 rfl rfl ⟨Nat.le_of_ble_eq_true rfl, Nat.le_of_ble_eq_true rfl⟩ (Nat.le_of_ble_eq_true rfl) dX3_meetings_21 (fun fx1 => ?_)
    refine gr_if_eq (tgt := 34) dX3_meetings_24 (by decide) h (fun _ h => ?_) (fun _ h => ?_)
    · refine gr_aload_n dX3_meetings_34 rfl rfl ?_
      refine gr_aload_n dX3_meetings_35 rfl rfl ?_
      refine gr_getR q_0_2 fl_X3_24 dX3_meetings_36 ?_
      refine gr_getRN q_7_3 fl_X3_203 dX3_meetings_39 ?_
      refine gr_aload_n dX3_meetings_42 rfl rfl ?_
      refine gr_getR q_0_6 fl_X3_44 dX3_meetings_43 ?_
      obtain ⟨x2, hx2, h⟩ := gn_bd h
      refine gc_VI (c_X3_firstMeeting s_30 s_24 hx2) my_X3_firstMeeting mv_X3_firstMeeting ob_0 ml_X3_237 rfl rfl ⟨Nat.le_of_ble_eq_true rfl, Nat.le_of_ble_eq_true rfl⟩ (Nat.le_of_ble_eq_true rfl) dX3_meetings_46 (fun fx2 => ?_)
      refine gr_istore_n (lv' := [some (.ref 0), some (.int x2.1), none]) dX3_meetings_49 rfl (by decide) rfl ?_
      refine gr_iload_n dX3_meetings_50 rfl rfl ?_
      refine gr_bipush dX3_meetings_51 gk_b_m9 ?_
      refine gr_icmp_eq (tgt := 63) dX3_meetings_53 (by decide) h (fun _ h => ?_) (fun _ h => ?_)
      · refine gr_aload_n dX3_meetings_63 rfl rfl ?_
        obtain ⟨x3, hx3, h⟩ := gn_bd h
        refine gc_VI (c_X3_firstTwoMeetings hx3) my_X3_firstTwoMeetings mv_X3_firstTwoMeetings ob_0 ml_X3_241 rfl rfl ⟨Nat.le_of_ble_eq_true rfl, Nat.le_of_ble_eq_true rfl⟩ (Nat.le_of_ble_eq_true rfl) dX3_meetings_64 (fun fx3 => ?_)
        refine gr_istore_n (lv' := [some (.ref 0), some (.int x2.1), some (.int x3.1)]) dX3_meetings_67 rfl (by decide) rfl ?_
        refine gr_iload_n dX3_meetings_68 rfl rfl ?_
        refine gr_bipush dX3_meetings_69 gk_b_m9 ?_
        refine gr_icmp_ne (tgt := 77) dX3_meetings_71 (by decide) h (fun _ h => ?_) (fun _ h => ?_)
        · refine gr_bipush dX3_meetings_74 gk_b_m9 ?_
          exact gq_retIM dX3_meetings_76 rfl h
        · refine gr_aload_n dX3_meetings_77 rfl rfl ?_
          refine gr_iload_n dX3_meetings_78 rfl rfl ?_
          refine gq_putI q_0_10 rfl rfl fl_X3_57 dX3_meetings_79 h (fun m4 h => ?_)
          refine gr_iconst dX3_meetings_82 gk_i_2 ?_
          exact gq_retIM dX3_meetings_83 rfl h
      · refine gr_aload_n dX3_meetings_56 rfl rfl ?_
        refine gr_iload_n dX3_meetings_57 rfl rfl ?_
        refine gq_putI q_0_10 rfl rfl fl_X3_57 dX3_meetings_58 h (fun m5 h => ?_)
        refine gr_iconst dX3_meetings_61 gk_i_1 ?_
        exact gq_retIM dX3_meetings_62 rfl h
    · refine gr_aload_n dX3_meetings_27 rfl rfl ?_
      refine gr_iconst dX3_meetings_28 gk_i_0 ?_
      refine gq_putI q_0_10 rfl rfl fl_X3_57 dX3_meetings_29 h (fun m6 h => ?_)
      refine gr_iconst dX3_meetings_32 gk_i_0 ?_
      exact gq_retIM dX3_meetings_33 rfl h
def L_X3_mostByCardOf_19 (n : Nat) (a1 : Int32) (a2 : Int32) (k : gn_M → Option (Int32 × gn_M)) : Nat → Int32 → gn_M → Option (Int32 × gn_M)
  | 0, _, _ => none
  | f + 1, v3, m => (if v3 < (m.1 7 6) then gn_jn (fun (j2 : Int32) => (if j2 = 0 then gn_rd m 30 7 v3 (fun x4 => gn_wr m 24 7 v3 x4 (fun m5 => L_X3_mostByCardOf_19 n a1 a2 k f (v3 + (1 : Int32)) m5)) else gn_rd m 30 7 v3 (fun x6 => gn_wr m 24 7 v3 (x6 ||| (a2 &&& (((1 : Int32) <<< (v3 &&& 31)) ^^^ (-1 : Int32)))) (fun m7 => L_X3_mostByCardOf_19 n a1 a2 k f (v3 + (1 : Int32)) m7)))) (fun J3 => (if v3 = a1 then J3 (0 : Int32) else (f_X0_waits m v3).bind (fun x8 => (if x8 = 0 then J3 (0 : Int32) else J3 (1 : Int32))))) else k m)
set_option maxRecDepth 100000 in
set_option maxHeartbeats 4000000 in
theorem l_X3_mostByCardOf_19 {n : Nat} {a1 : Int32} {a2 : Int32} {k : gn_M → Option (Int32 × gn_M)} {v : Int32 × gn_M} (hk : ∀ (m1 : gn_M), k m1 = some v → gn_Go RX3 cX3_mostByCardOf 5 4 88 (some .int) none 99 [some (.ref 0), none, none, none, none] [] m1 (some (.int v.1)) v.2) : ∀ (f : Nat) (v3 : Int32) (m : gn_M), L_X3_mostByCardOf_19 n a1 a2 k f v3 m = some v → gn_Go RX3 cX3_mostByCardOf 5 4 88 (some .int) none 19 [some (.ref 0), some (.int a1), some (.int a2), some (.int v3), none] [] m (some (.int v.1)) v.2 := by
  intro f
  induction f with
  | zero =>
    intro v3 m h
    cases h
  | succ f ih =>
    intro v3 m h
    rw [L_X3_mostByCardOf_19] at h
    refine gr_iload_n dX3_mostByCardOf_19 rfl rfl ?_
    refine gr_aload_n dX3_mostByCardOf_20 rfl rfl ?_
    refine gr_getR q_0_2 fl_X3_24 dX3_mostByCardOf_21 ?_
    refine gr_getIN q_7_6 fl_X3_126 dX3_mostByCardOf_24 ?_
    refine gr_icmp_ge (tgt := 99) dX3_mostByCardOf_27 (by decide) h (fun _ h => ?_) (fun _ h => ?_)
    · refine gr_iload_n dX3_mostByCardOf_30 rfl rfl ?_
      refine gr_iload_n dX3_mostByCardOf_31 rfl rfl ?_
      refine gn_jnE (P := fun (j2 : Int32) => gn_Go RX3 cX3_mostByCardOf 5 4 88 (some .int) none 51 [some (.ref 0), some (.int a1), some (.int a2), some (.int v3), none] [.int j2] m (some (.int v.1)) v.2) h (fun j2 h => ?_) (fun J3 hJ3 h => ?_)
      · refine gr_istore (lv' := [some (.ref 0), some (.int a1), some (.int a2), some (.int v3), some (.int j2)]) dX3_mostByCardOf_51 (by decide) rfl ?_
        refine gr_aload_n dX3_mostByCardOf_53 rfl rfl ?_
        refine gr_getR q_0_6 fl_X3_44 dX3_mostByCardOf_54 ?_
        refine gr_iload_n dX3_mostByCardOf_57 rfl rfl ?_
        refine gr_iload dX3_mostByCardOf_58 rfl ?_
        refine gr_if_eq (tgt := 83) dX3_mostByCardOf_60 (by decide) h (fun _ h => ?_) (fun _ h => ?_)
        · refine gr_aload_n dX3_mostByCardOf_83 rfl rfl ?_
          refine gr_getR q_0_2 fl_X3_24 dX3_mostByCardOf_84 ?_
          refine gr_getRN q_7_3 fl_X3_203 dX3_mostByCardOf_87 ?_
          refine gr_iload_n dX3_mostByCardOf_90 rfl rfl ?_
          refine gq_iaload s_30 dX3_mostByCardOf_91 h (fun x4 h => ?_)
          refine gq_iastore s_24 dX3_mostByCardOf_92 h (fun m5 h => ?_)
          refine gr_iinc (lv' := [some (.ref 0), some (.int a1), some (.int a2), some (.int (v3 + (1 : Int32))), some (.int j2)]) dX3_mostByCardOf_93 rfl gk_i_1 (by decide) rfl ?_
          refine gr_goto (tgt := 19) dX3_mostByCardOf_96 (by decide) ?_
          refine gn_wkn [true, true, true, true, false] rfl ?_
          exact ih _ _ h
        · refine gr_aload_n dX3_mostByCardOf_63 rfl rfl ?_
          refine gr_getR q_0_2 fl_X3_24 dX3_mostByCardOf_64 ?_
          refine gr_getRN q_7_3 fl_X3_203 dX3_mostByCardOf_67 ?_
          refine gr_iload_n dX3_mostByCardOf_70 rfl rfl ?_
          refine gq_iaload s_30 dX3_mostByCardOf_71 h (fun x6 h => ?_)
          refine gr_iload_n dX3_mostByCardOf_72 rfl rfl ?_
          refine gr_iconst dX3_mostByCardOf_73 gk_i_1 ?_
          refine gr_iload_n dX3_mostByCardOf_74 rfl rfl ?_
          refine gr_ishl dX3_mostByCardOf_75 ?_
          refine gr_iconst dX3_mostByCardOf_76 gk_i_m1 ?_
          refine gr_ixor dX3_mostByCardOf_77 ?_
          refine gr_iand dX3_mostByCardOf_78 ?_
          refine gr_ior dX3_mostByCardOf_79 ?_
          refine gr_goto (tgt := 92) dX3_mostByCardOf_80 (by decide) ?_
          refine gq_iastore s_24 dX3_mostByCardOf_92 h (fun m7 h => ?_)
          refine gr_iinc (lv' := [some (.ref 0), some (.int a1), some (.int a2), some (.int (v3 + (1 : Int32))), some (.int j2)]) dX3_mostByCardOf_93 rfl gk_i_1 (by decide) rfl ?_
          refine gr_goto (tgt := 19) dX3_mostByCardOf_96 (by decide) ?_
          refine gn_wkn [true, true, true, true, false] rfl ?_
          exact ih _ _ h
      · refine gr_icmp_eq (tgt := 50) dX3_mostByCardOf_32 (by decide) h (fun _ h => ?_) (fun _ h => ?_)
        · refine gr_iconst dX3_mostByCardOf_50 gk_i_0 ?_
          exact hJ3 (0 : Int32) h
        · refine gr_aload_n dX3_mostByCardOf_35 rfl rfl ?_
          refine gr_getR q_0_2 fl_X3_24 dX3_mostByCardOf_36 ?_
          refine gr_iload_n dX3_mostByCardOf_39 rfl rfl ?_
          obtain ⟨x8, hx8, h⟩ := gn_bd h
          refine gc_VNI (c_X0_waits hx8) my_X0_waits mv_X0_waits ob_7 ml_X3_244 rfl rfl ⟨Nat.le_of_ble_eq_true rfl, Nat.le_of_ble_eq_true rfl⟩ (Nat.le_of_ble_eq_true rfl) dX3_mostByCardOf_40 (fun fx8 => ?_)
          refine gr_if_eq (tgt := 50) dX3_mostByCardOf_43 (by decide) h (fun _ h => ?_) (fun _ h => ?_)
          · refine gr_iconst dX3_mostByCardOf_50 gk_i_0 ?_
            exact hJ3 (0 : Int32) h
          · refine gr_iconst dX3_mostByCardOf_46 gk_i_1 ?_
            refine gr_goto (tgt := 51) dX3_mostByCardOf_47 (by decide) ?_
            exact hJ3 (1 : Int32) h
    · refine gn_wkn [true, false, false, false, false] rfl ?_
      exact hk _ h
def f_X3_mostByCardOf (n : Nat) (m : gn_M) (p0 : Int32) : Option (Int32 × gn_M) := (f_X0_tellingOf m p0).bind (fun x1 => L_X3_mostByCardOf_19 n p0 ((m.1 7 10) ||| x1) (fun (m9 : gn_M) => (f_X1_survey n m9 24).bind (fun x10 => (f_X1_rank n x10).bind (fun x11 => gn_rd x11 35 128 (x11.1 8 6) (fun x12 => some (x12, x11))))) n (0 : Int32) m)
set_option maxRecDepth 100000 in
set_option maxHeartbeats 4000000 in
theorem c_X3_mostByCardOf {n : Nat} {m : gn_M} {p0 : Int32} {v : Int32 × gn_M} (h : f_X3_mostByCardOf n m p0 = some v) : gn_Cl yX3_mostByCardOf cX3_mostByCardOf 5 (some .int) 4 88 [.ref 0, .int p0] m (some (.int v.1)) v.2 := by
  rw [f_X3_mostByCardOf] at h
  refine gn_met (lv := [some (.ref 0), some (.int p0), none, none, none]) pl_X3 rfl rfl (Nat.le_of_ble_eq_true rfl) ?_
  refine gr_aload_n dX3_mostByCardOf_0 rfl rfl ?_
  refine gr_getR q_0_2 fl_X3_24 dX3_mostByCardOf_1 ?_
  refine gr_getIN q_7_10 fl_X3_179 dX3_mostByCardOf_4 ?_
  refine gr_aload_n dX3_mostByCardOf_7 rfl rfl ?_
  refine gr_getR q_0_2 fl_X3_24 dX3_mostByCardOf_8 ?_
  refine gr_iload_n dX3_mostByCardOf_11 rfl rfl ?_
  obtain ⟨x1, hx1, h⟩ := gn_bd h
  refine gc_VNI (c_X0_tellingOf hx1) my_X0_tellingOf mv_X0_tellingOf ob_7 ml_X3_148 rfl rfl ⟨Nat.le_of_ble_eq_true rfl, Nat.le_of_ble_eq_true rfl⟩ (Nat.le_of_ble_eq_true rfl) dX3_mostByCardOf_12 (fun fx1 => ?_)
  refine gr_ior dX3_mostByCardOf_15 ?_
  refine gr_istore_n (lv' := [some (.ref 0), some (.int p0), some (.int ((m.1 7 10) ||| x1)), none, none]) dX3_mostByCardOf_16 rfl (by decide) rfl ?_
  refine gr_iconst dX3_mostByCardOf_17 gk_i_0 ?_
  refine gr_istore_n (lv' := [some (.ref 0), some (.int p0), some (.int ((m.1 7 10) ||| x1)), some (.int (0 : Int32)), none]) dX3_mostByCardOf_18 rfl (by decide) rfl ?_
  refine l_X3_mostByCardOf_19 (fun m9 h => ?_) _ _ _ h
  refine gr_aload_n dX3_mostByCardOf_99 rfl rfl ?_
  refine gr_getR q_0_3 fl_X3_31 dX3_mostByCardOf_100 ?_
  refine gr_aload_n dX3_mostByCardOf_103 rfl rfl ?_
  refine gr_getR q_0_2 fl_X3_24 dX3_mostByCardOf_104 ?_
  refine gr_aload_n dX3_mostByCardOf_107 rfl rfl ?_
  refine gr_getR q_0_6 fl_X3_44 dX3_mostByCardOf_108 ?_
  obtain ⟨x10, hx10, h⟩ := gn_bd h
  refine gc_VN0 (c_X1_survey s_24 hx10) my_X1_survey mv_X1_survey ob_8 ml_X3_206 rfl rfl ⟨Nat.le_of_ble_eq_true rfl, Nat.le_of_ble_eq_true rfl⟩ (Nat.le_of_ble_eq_true rfl) dX3_mostByCardOf_111 (fun fx10 => ?_)
  refine gr_aload_n dX3_mostByCardOf_114 rfl rfl ?_
  refine gr_getR q_0_3 fl_X3_31 dX3_mostByCardOf_115 ?_
  obtain ⟨x11, hx11, h⟩ := gn_bd h
  refine gc_VN0 (c_X1_rank hx11) my_X1_rank mv_X1_rank ob_8 ml_X3_210 rfl rfl ⟨Nat.le_of_ble_eq_true rfl, Nat.le_of_ble_eq_true rfl⟩ (Nat.le_of_ble_eq_true rfl) dX3_mostByCardOf_118 (fun fx11 => ?_)
  refine gr_aload_n dX3_mostByCardOf_121 rfl rfl ?_
  refine gr_getR q_0_3 fl_X3_31 dX3_mostByCardOf_122 ?_
  refine gr_getRN q_8_2 fl_X3_213 dX3_mostByCardOf_125 ?_
  refine gr_aload_n dX3_mostByCardOf_128 rfl rfl ?_
  refine gr_getR q_0_3 fl_X3_31 dX3_mostByCardOf_129 ?_
  refine gr_getIN q_8_6 fl_X3_216 dX3_mostByCardOf_132 ?_
  refine gq_iaload s_35 dX3_mostByCardOf_135 h (fun x12 h => ?_)
  exact gq_retIM dX3_mostByCardOf_136 rfl h
def f_X3_toldAside (m : gn_M) (p0 : Int32) (p1 : Int32) : Option (Int32 × gn_M) := gn_pf m 0 10 p1 (fun m1 => some (p0, m1))
set_option maxRecDepth 100000 in
set_option maxHeartbeats 4000000 in
theorem c_X3_toldAside {m : gn_M} {p0 : Int32} {p1 : Int32} {v : Int32 × gn_M} (h : f_X3_toldAside m p0 p1 = some v) : gn_Cl yX3_toldAside cX3_toldAside 3 (some .int) 0 0 [.ref 0, .int p0, .int p1] m (some (.int v.1)) v.2 := by
  rw [f_X3_toldAside] at h
  refine gn_met (lv := [some (.ref 0), some (.int p0), some (.int p1)]) pl_X3 rfl rfl (Nat.le_of_ble_eq_true rfl) ?_
  refine gr_aload_n dX3_toldAside_0 rfl rfl ?_
  refine gr_iload_n dX3_toldAside_1 rfl rfl ?_
  refine gq_putI q_0_10 rfl rfl fl_X3_57 dX3_toldAside_2 h (fun m1 h => ?_)
  refine gr_iload_n dX3_toldAside_5 rfl rfl ?_
  exact gq_retIM dX3_toldAside_6 rfl h
def L_X3_stone_20 (n : Nat) (k : Int32 → Int32 → gn_M → Option (Int32 × gn_M)) : Nat → Int32 → Int32 → Int32 → gn_M → Option (Int32 × gn_M)
  | 0, _, _, _, _ => none
  | f + 1, v1, v2, v3, m => (if v3 < (m.1 7 6) then (f_X0_waits m v3).bind (fun x1 => (if x1 = 0 then L_X3_stone_20 n k f v1 v2 (v3 + (1 : Int32)) m else (f_X3_mostByCardOf n m v3).bind (fun x2 => (if v2 < x2.1 then L_X3_stone_20 n k f v3 x2.1 (v3 + (1 : Int32)) x2.2 else L_X3_stone_20 n k f v1 v2 (v3 + (1 : Int32)) x2.2)))) else k v1 v2 m)
set_option maxRecDepth 100000 in
set_option maxHeartbeats 4000000 in
theorem l_X3_stone_20 {n : Nat} {k : Int32 → Int32 → gn_M → Option (Int32 × gn_M)} {v : Int32 × gn_M} (hk : ∀ (e1 : Int32) (e2 : Int32) (m1 : gn_M), k e1 e2 m1 = some v → gn_Go RX3 cX3_stone 5 5 112 (some .int) none 66 [some (.ref 0), some (.int e1), some (.int e2), none, none] [] m1 (some (.int v.1)) v.2) : ∀ (f : Nat) (v1 : Int32) (v2 : Int32) (v3 : Int32) (m : gn_M), L_X3_stone_20 n k f v1 v2 v3 m = some v → gn_Go RX3 cX3_stone 5 5 112 (some .int) none 20 [some (.ref 0), some (.int v1), some (.int v2), some (.int v3), none] [] m (some (.int v.1)) v.2 := by
  intro f
  induction f with
  | zero =>
    intro v1 v2 v3 m h
    cases h
  | succ f ih =>
    intro v1 v2 v3 m h
    rw [L_X3_stone_20] at h
    refine gr_iload_n dX3_stone_20 rfl rfl ?_
    refine gr_aload_n dX3_stone_21 rfl rfl ?_
    refine gr_getR q_0_2 fl_X3_24 dX3_stone_22 ?_
    refine gr_getIN q_7_6 fl_X3_126 dX3_stone_25 ?_
    refine gr_icmp_ge (tgt := 66) dX3_stone_28 (by decide) h (fun _ h => ?_) (fun _ h => ?_)
    · refine gr_aload_n dX3_stone_31 rfl rfl ?_
      refine gr_getR q_0_2 fl_X3_24 dX3_stone_32 ?_
      refine gr_iload_n dX3_stone_35 rfl rfl ?_
      obtain ⟨x1, hx1, h⟩ := gn_bd h
      refine gc_VNI (c_X0_waits hx1) my_X0_waits mv_X0_waits ob_7 ml_X3_244 rfl rfl ⟨Nat.le_of_ble_eq_true rfl, Nat.le_of_ble_eq_true rfl⟩ (Nat.le_of_ble_eq_true rfl) dX3_stone_36 (fun fx1 => ?_)
      refine gr_if_eq (tgt := 60) dX3_stone_39 (by decide) h (fun _ h => ?_) (fun _ h => ?_)
      · refine gr_iinc (lv' := [some (.ref 0), some (.int v1), some (.int v2), some (.int (v3 + (1 : Int32))), none]) dX3_stone_60 rfl gk_i_1 (by decide) rfl ?_
        refine gr_goto (tgt := 20) dX3_stone_63 (by decide) ?_
        exact ih _ _ _ _ h
      · refine gr_aload_n dX3_stone_42 rfl rfl ?_
        refine gr_iload_n dX3_stone_43 rfl rfl ?_
        obtain ⟨x2, hx2, h⟩ := gn_bd h
        refine gc_VI (c_X3_mostByCardOf hx2) my_X3_mostByCardOf mv_X3_mostByCardOf ob_0 ml_X3_247 rfl rfl ⟨Nat.le_of_ble_eq_true rfl, Nat.le_of_ble_eq_true rfl⟩ (Nat.le_of_ble_eq_true rfl) dX3_stone_44 (fun fx2 => ?_)
        refine gr_istore (lv' := [some (.ref 0), some (.int v1), some (.int v2), some (.int v3), some (.int x2.1)]) dX3_stone_47 (by decide) rfl ?_
        refine gr_iload dX3_stone_49 rfl ?_
        refine gr_iload_n dX3_stone_51 rfl rfl ?_
        refine gr_icmp_le (tgt := 60) dX3_stone_52 (by decide) h (fun _ h => ?_) (fun _ h => ?_)
        · refine gr_iload_n dX3_stone_55 rfl rfl ?_
          refine gr_istore_n (lv' := [some (.ref 0), some (.int v3), some (.int v2), some (.int v3), some (.int x2.1)]) dX3_stone_56 rfl (by decide) rfl ?_
          refine gr_iload dX3_stone_57 rfl ?_
          refine gr_istore_n (lv' := [some (.ref 0), some (.int v3), some (.int x2.1), some (.int v3), some (.int x2.1)]) dX3_stone_59 rfl (by decide) rfl ?_
          refine gr_iinc (lv' := [some (.ref 0), some (.int v3), some (.int x2.1), some (.int (v3 + (1 : Int32))), some (.int x2.1)]) dX3_stone_60 rfl gk_i_1 (by decide) rfl ?_
          refine gr_goto (tgt := 20) dX3_stone_63 (by decide) ?_
          refine gn_wkn [true, true, true, true, false] rfl ?_
          exact ih _ _ _ _ h
        · refine gr_iinc (lv' := [some (.ref 0), some (.int v1), some (.int v2), some (.int (v3 + (1 : Int32))), some (.int x2.1)]) dX3_stone_60 rfl gk_i_1 (by decide) rfl ?_
          refine gr_goto (tgt := 20) dX3_stone_63 (by decide) ?_
          refine gn_wkn [true, true, true, true, false] rfl ?_
          exact ih _ _ _ _ h
    · refine gn_wkn [true, true, true, false, false] rfl ?_
      exact hk _ _ _ h
def f_X3_stone (n : Nat) (m : gn_M) : Option (Int32 × gn_M) := (if (m.1 7 6) = 0 then some ((-4 : Int32), m) else L_X3_stone_20 n (fun (e3 : Int32) (e4 : Int32) (m5 : gn_M) => (if e3 = (-9 : Int32) then some ((-9 : Int32), m5) else (f_X3_toldAside m5 e3 e4).bind (fun x6 => some (x6.1, x6.2)))) n (-9 : Int32) (-1 : Int32) (0 : Int32) m)
set_option maxRecDepth 100000 in
set_option maxHeartbeats 4000000 in
theorem c_X3_stone {n : Nat} {m : gn_M} {v : Int32 × gn_M} (h : f_X3_stone n m = some v) : gn_Cl yX3_stone cX3_stone 5 (some .int) 5 112 [.ref 0] m (some (.int v.1)) v.2 := by
  rw [f_X3_stone] at h
  refine gn_met (lv := [some (.ref 0), none, none, none, none]) pl_X3 rfl rfl (Nat.le_of_ble_eq_true rfl) ?_
  refine gr_aload_n dX3_stone_0 rfl rfl ?_
  refine gr_getR q_0_2 fl_X3_24 dX3_stone_1 ?_
  refine gr_getIN q_7_6 fl_X3_126 dX3_stone_4 ?_
  refine gr_if_ne (tgt := 13) dX3_stone_7 (by decide) h (fun _ h => ?_) (fun _ h => ?_)
  · refine gr_bipush dX3_stone_10 gk_b_m4 ?_
    exact gq_retIM dX3_stone_12 rfl h
  · refine gr_bipush dX3_stone_13 gk_b_m9 ?_
    refine gr_istore_n (lv' := [some (.ref 0), some (.int (-9 : Int32)), none, none, none]) dX3_stone_15 rfl (by decide) rfl ?_
    refine gr_iconst dX3_stone_16 gk_i_m1 ?_
    refine gr_istore_n (lv' := [some (.ref 0), some (.int (-9 : Int32)), some (.int (-1 : Int32)), none, none]) dX3_stone_17 rfl (by decide) rfl ?_
    refine gr_iconst dX3_stone_18 gk_i_0 ?_
    refine gr_istore_n (lv' := [some (.ref 0), some (.int (-9 : Int32)), some (.int (-1 : Int32)), some (.int (0 : Int32)), none]) dX3_stone_19 rfl (by decide) rfl ?_
    refine l_X3_stone_20 (fun e3 e4 m5 h => ?_) _ _ _ _ _ h
    refine gr_iload_n dX3_stone_66 rfl rfl ?_
    refine gr_bipush dX3_stone_67 gk_b_m9 ?_
    refine gr_icmp_ne (tgt := 77) dX3_stone_69 (by decide) h (fun _ h => ?_) (fun _ h => ?_)
    · refine gr_bipush dX3_stone_72 gk_b_m9 ?_
      refine gr_goto (tgt := 83) dX3_stone_74 (by decide) ?_
      exact gq_retIM dX3_stone_83 rfl h
    · refine gr_aload_n dX3_stone_77 rfl rfl ?_
      refine gr_iload_n dX3_stone_78 rfl rfl ?_
      refine gr_iload_n dX3_stone_79 rfl rfl ?_
      obtain ⟨x6, hx6, h⟩ := gn_bd h
      refine gc_VI (c_X3_toldAside hx6) my_X3_toldAside mv_X3_toldAside ob_0 ml_X3_250 rfl rfl ⟨Nat.le_of_ble_eq_true rfl, Nat.le_of_ble_eq_true rfl⟩ (Nat.le_of_ble_eq_true rfl) dX3_stone_80 (fun fx6 => ?_)
      exact gq_retIM dX3_stone_83 rfl h
def L_X3_hold_46 (n : Nat) (m : gn_M) (k : Int32 → Int32 → Option (Int32 × gn_M)) : Nat → Int32 → Int32 → Int32 → Option (Int32 × gn_M)
  | 0, _, _, _ => none
  | f + 1, v1, v2, v3 => (if v3 < (m.1 7 6) then (f_X0_waits m v3).bind (fun x3 => (if x3 = 0 then L_X3_hold_46 n m k f v1 v2 (v3 + (1 : Int32)) else gn_rd m 35 128 ((m.1 8 6) &&& (((1 : Int32) <<< (v3 &&& 31)) ^^^ (-1 : Int32))) (fun x4 => (if x4 < v2 then L_X3_hold_46 n m k f v3 x4 (v3 + (1 : Int32)) else L_X3_hold_46 n m k f v1 v2 (v3 + (1 : Int32)))))) else k v1 v2)
set_option maxRecDepth 100000 in
set_option maxHeartbeats 4000000 in
theorem l_X3_hold_46 {n : Nat} {m : gn_M} {k : Int32 → Int32 → Option (Int32 × gn_M)} {v : Int32 × gn_M} (hk : ∀ (e1 : Int32) (e2 : Int32), k e1 e2 = some v → gn_Go RX3 cX3_hold 5 4 88 (some .int) none 108 [some (.ref 0), some (.int e1), some (.int e2), none, none] [] m (some (.int v.1)) v.2) : ∀ (f : Nat) (v1 : Int32) (v2 : Int32) (v3 : Int32), L_X3_hold_46 n m k f v1 v2 v3 = some v → gn_Go RX3 cX3_hold 5 4 88 (some .int) none 46 [some (.ref 0), some (.int v1), some (.int v2), some (.int v3), none] [] m (some (.int v.1)) v.2 := by
  intro f
  induction f with
  | zero =>
    intro v1 v2 v3 h
    cases h
  | succ f ih =>
    intro v1 v2 v3 h
    rw [L_X3_hold_46] at h
    refine gr_iload_n dX3_hold_46 rfl rfl ?_
    refine gr_aload_n dX3_hold_47 rfl rfl ?_
    refine gr_getR q_0_2 fl_X3_24 dX3_hold_48 ?_
    refine gr_getIN q_7_6 fl_X3_126 dX3_hold_51 ?_
    refine gr_icmp_ge (tgt := 108) dX3_hold_54 (by decide) h (fun _ h => ?_) (fun _ h => ?_)
    · refine gr_aload_n dX3_hold_57 rfl rfl ?_
      refine gr_getR q_0_2 fl_X3_24 dX3_hold_58 ?_
      refine gr_iload_n dX3_hold_61 rfl rfl ?_
      obtain ⟨x3, hx3, h⟩ := gn_bd h
      refine gc_VNI (c_X0_waits hx3) my_X0_waits mv_X0_waits ob_7 ml_X3_244 rfl rfl ⟨Nat.le_of_ble_eq_true rfl, Nat.le_of_ble_eq_true rfl⟩ (Nat.le_of_ble_eq_true rfl) dX3_hold_62 (fun fx3 => ?_)
      refine gr_if_eq (tgt := 102) dX3_hold_65 (by decide) h (fun _ h => ?_) (fun _ h => ?_)
      · refine gr_iinc (lv' := [some (.ref 0), some (.int v1), some (.int v2), some (.int (v3 + (1 : Int32))), none]) dX3_hold_102 rfl gk_i_1 (by decide) rfl ?_
        refine gr_goto (tgt := 46) dX3_hold_105 (by decide) ?_
        exact ih _ _ _ h
      · refine gr_aload_n dX3_hold_68 rfl rfl ?_
        refine gr_getR q_0_3 fl_X3_31 dX3_hold_69 ?_
        refine gr_getRN q_8_2 fl_X3_213 dX3_hold_72 ?_
        refine gr_aload_n dX3_hold_75 rfl rfl ?_
        refine gr_getR q_0_3 fl_X3_31 dX3_hold_76 ?_
        refine gr_getIN q_8_6 fl_X3_216 dX3_hold_79 ?_
        refine gr_iconst dX3_hold_82 gk_i_1 ?_
        refine gr_iload_n dX3_hold_83 rfl rfl ?_
        refine gr_ishl dX3_hold_84 ?_
        refine gr_iconst dX3_hold_85 gk_i_m1 ?_
        refine gr_ixor dX3_hold_86 ?_
        refine gr_iand dX3_hold_87 ?_
        refine gq_iaload s_35 dX3_hold_88 h (fun x4 h => ?_)
        refine gr_istore (lv' := [some (.ref 0), some (.int v1), some (.int v2), some (.int v3), some (.int x4)]) dX3_hold_89 (by decide) rfl ?_
        refine gr_iload dX3_hold_91 rfl ?_
        refine gr_iload_n dX3_hold_93 rfl rfl ?_
        refine gr_icmp_ge (tgt := 102) dX3_hold_94 (by decide) h (fun _ h => ?_) (fun _ h => ?_)
        · refine gr_iload_n dX3_hold_97 rfl rfl ?_
          refine gr_istore_n (lv' := [some (.ref 0), some (.int v3), some (.int v2), some (.int v3), some (.int x4)]) dX3_hold_98 rfl (by decide) rfl ?_
          refine gr_iload dX3_hold_99 rfl ?_
          refine gr_istore_n (lv' := [some (.ref 0), some (.int v3), some (.int x4), some (.int v3), some (.int x4)]) dX3_hold_101 rfl (by decide) rfl ?_
          refine gr_iinc (lv' := [some (.ref 0), some (.int v3), some (.int x4), some (.int (v3 + (1 : Int32))), some (.int x4)]) dX3_hold_102 rfl gk_i_1 (by decide) rfl ?_
          refine gr_goto (tgt := 46) dX3_hold_105 (by decide) ?_
          refine gn_wkn [true, true, true, true, false] rfl ?_
          exact ih _ _ _ h
        · refine gr_iinc (lv' := [some (.ref 0), some (.int v1), some (.int v2), some (.int (v3 + (1 : Int32))), some (.int x4)]) dX3_hold_102 rfl gk_i_1 (by decide) rfl ?_
          refine gr_goto (tgt := 46) dX3_hold_105 (by decide) ?_
          refine gn_wkn [true, true, true, true, false] rfl ?_
          exact ih _ _ _ h
    · refine gn_wkn [true, true, true, false, false] rfl ?_
      exact hk _ _ h
def f_X3_hold (n : Nat) (m : gn_M) : Option (Int32 × gn_M) := (if (m.1 7 6) = 0 then some ((-4 : Int32), m) else (f_X1_survey n m 30).bind (fun x1 => (f_X1_rank n x1).bind (fun x2 => L_X3_hold_46 n x2 (fun (e5 : Int32) (e6 : Int32) => (if e5 = (-9 : Int32) then some ((-9 : Int32), x2) else (f_X3_toldAside x2 e5 e6).bind (fun x7 => some (x7.1, x7.2)))) n (-9 : Int32) (8 : Int32) (0 : Int32))))
set_option maxRecDepth 100000 in
set_option maxHeartbeats 4000000 in
theorem c_X3_hold {n : Nat} {m : gn_M} {v : Int32 × gn_M} (h : f_X3_hold n m = some v) : gn_Cl yX3_hold cX3_hold 5 (some .int) 4 88 [.ref 0] m (some (.int v.1)) v.2 := by
  rw [f_X3_hold] at h
  refine gn_met (lv := [some (.ref 0), none, none, none, none]) pl_X3 rfl rfl (Nat.le_of_ble_eq_true rfl) ?_
  refine gr_aload_n dX3_hold_0 rfl rfl ?_
  refine gr_getR q_0_2 fl_X3_24 dX3_hold_1 ?_
  refine gr_getIN q_7_6 fl_X3_126 dX3_hold_4 ?_
  refine gr_if_ne (tgt := 13) dX3_hold_7 (by decide) h (fun _ h => ?_) (fun _ h => ?_)
  · refine gr_bipush dX3_hold_10 gk_b_m4 ?_
    exact gq_retIM dX3_hold_12 rfl h
  · refine gr_aload_n dX3_hold_13 rfl rfl ?_
    refine gr_getR q_0_3 fl_X3_31 dX3_hold_14 ?_
    refine gr_aload_n dX3_hold_17 rfl rfl ?_
    refine gr_getR q_0_2 fl_X3_24 dX3_hold_18 ?_
    refine gr_aload_n dX3_hold_21 rfl rfl ?_
    refine gr_getR q_0_2 fl_X3_24 dX3_hold_22 ?_
    refine gr_getRN q_7_3 fl_X3_203 dX3_hold_25 ?_
    obtain ⟨x1, hx1, h⟩ := gn_bd h
    refine gc_VN0 (c_X1_survey s_30 hx1) my_X1_survey mv_X1_survey ob_8 ml_X3_206 rfl rfl ⟨Nat.le_of_ble_eq_true rfl, Nat.le_of_ble_eq_true rfl⟩ (Nat.le_of_ble_eq_true rfl) dX3_hold_28 (fun fx1 => ?_)
    refine gr_aload_n dX3_hold_31 rfl rfl ?_
    refine gr_getR q_0_3 fl_X3_31 dX3_hold_32 ?_
    obtain ⟨x2, hx2, h⟩ := gn_bd h
    refine gc_VN0 (c_X1_rank hx2) my_X1_rank mv_X1_rank ob_8 ml_X3_210 rfl rfl ⟨Nat.le_of_ble_eq_true rfl, Nat.le_of_ble_eq_true rfl⟩ (Nat.le_of_ble_eq_true rfl) dX3_hold_35 (fun fx2 => ?_)
    refine gr_bipush dX3_hold_38 gk_b_m9 ?_
    refine gr_istore_n (lv' := [some (.ref 0), some (.int (-9 : Int32)), none, none, none]) dX3_hold_40 rfl (by decide) rfl ?_
    refine gr_bipush dX3_hold_41 gk_b_8 ?_
    refine gr_istore_n (lv' := [some (.ref 0), some (.int (-9 : Int32)), some (.int (8 : Int32)), none, none]) dX3_hold_43 rfl (by decide) rfl ?_
    refine gr_iconst dX3_hold_44 gk_i_0 ?_
    refine gr_istore_n (lv' := [some (.ref 0), some (.int (-9 : Int32)), some (.int (8 : Int32)), some (.int (0 : Int32)), none]) dX3_hold_45 rfl (by decide) rfl ?_
    refine l_X3_hold_46 (fun e5 e6 h => ?_) _ _ _ _ h
    refine gr_iload_n dX3_hold_108 rfl rfl ?_
    refine gr_bipush dX3_hold_109 gk_b_m9 ?_
    refine gr_icmp_ne (tgt := 119) dX3_hold_111 (by decide) h (fun _ h => ?_) (fun _ h => ?_)
    · refine gr_bipush dX3_hold_114 gk_b_m9 ?_
      refine gr_goto (tgt := 125) dX3_hold_116 (by decide) ?_
      exact gq_retIM dX3_hold_125 rfl h
    · refine gr_aload_n dX3_hold_119 rfl rfl ?_
      refine gr_iload_n dX3_hold_120 rfl rfl ?_
      refine gr_iload_n dX3_hold_121 rfl rfl ?_
      obtain ⟨x7, hx7, h⟩ := gn_bd h
      refine gc_VI (c_X3_toldAside hx7) my_X3_toldAside mv_X3_toldAside ob_0 ml_X3_250 rfl rfl ⟨Nat.le_of_ble_eq_true rfl, Nat.le_of_ble_eq_true rfl⟩ (Nat.le_of_ble_eq_true rfl) dX3_hold_122 (fun fx7 => ?_)
      exact gq_retIM dX3_hold_125 rfl h
def L_X3_last_30 (n : Nat) (m : gn_M) (a1 : Int32) (k : Int32 → Option (Int32)) : Nat → Int32 → Int32 → Option (Int32)
  | 0, _, _ => none
  | f + 1, v2, v3 => (if v3 < (m.1 7 6) then (f_X0_namersOf n m v3).bind (fun x2 => (f_X0_left m).bind (fun x3 => (if ((x2 &&& x3) &&& (((1 : Int32) <<< (v3 &&& 31)) ^^^ (-1 : Int32))) = a1 then L_X3_last_30 n m a1 k f (v2 ||| ((1 : Int32) <<< (v3 &&& 31))) (v3 + (1 : Int32)) else L_X3_last_30 n m a1 k f v2 (v3 + (1 : Int32))))) else k v2)
set_option maxRecDepth 100000 in
set_option maxHeartbeats 4000000 in
theorem l_X3_last_30 {n : Nat} {m : gn_M} {a1 : Int32} {k : Int32 → Option (Int32)} {v : Int32} (hk : ∀ (e2 : Int32), k e2 = some v → gn_Go RX3 cX3_last 4 2 46 (some .int) none 79 [none, none, some (.int e2), none] [] m (some (.int v)) m) : ∀ (f : Nat) (v2 : Int32) (v3 : Int32), L_X3_last_30 n m a1 k f v2 v3 = some v → gn_Go RX3 cX3_last 4 2 46 (some .int) none 30 [some (.ref 0), some (.int a1), some (.int v2), some (.int v3)] [] m (some (.int v)) m := by
  intro f
  induction f with
  | zero =>
    intro v2 v3 h
    cases h
  | succ f ih =>
    intro v2 v3 h
    rw [L_X3_last_30] at h
    refine gr_iload_n dX3_last_30 rfl rfl ?_
    refine gr_aload_n dX3_last_31 rfl rfl ?_
    refine gr_getR q_0_2 fl_X3_24 dX3_last_32 ?_
    refine gr_getIN q_7_6 fl_X3_126 dX3_last_35 ?_
    refine gr_icmp_ge (tgt := 79) dX3_last_38 (by decide) h (fun _ h => ?_) (fun _ h => ?_)
    · refine gr_aload_n dX3_last_41 rfl rfl ?_
      refine gr_getR q_0_2 fl_X3_24 dX3_last_42 ?_
      refine gr_iload_n dX3_last_45 rfl rfl ?_
      obtain ⟨x2, hx2, h⟩ := gn_bd h
      refine gc_VNI (c_X0_namersOf hx2) my_X0_namersOf mv_X0_namersOf ob_7 ml_X3_145 rfl rfl ⟨Nat.le_of_ble_eq_true rfl, Nat.le_of_ble_eq_true rfl⟩ (Nat.le_of_ble_eq_true rfl) dX3_last_46 (fun fx2 => ?_)
      refine gr_aload_n dX3_last_49 rfl rfl ?_
      refine gr_getR q_0_2 fl_X3_24 dX3_last_50 ?_
      obtain ⟨x3, hx3, h⟩ := gn_bd h
      refine gc_VNI (c_X0_left hx3) my_X0_left mv_X0_left ob_7 ml_X3_151 rfl rfl ⟨Nat.le_of_ble_eq_true rfl, Nat.le_of_ble_eq_true rfl⟩ (Nat.le_of_ble_eq_true rfl) dX3_last_53 (fun fx3 => ?_)
      refine gr_iand dX3_last_56 ?_
      refine gr_iconst dX3_last_57 gk_i_1 ?_
      refine gr_iload_n dX3_last_58 rfl rfl ?_
      refine gr_ishl dX3_last_59 ?_
      refine gr_iconst dX3_last_60 gk_i_m1 ?_
      refine gr_ixor dX3_last_61 ?_
      refine gr_iand dX3_last_62 ?_
      refine gr_iload_n dX3_last_63 rfl rfl ?_
      refine gr_icmp_ne (tgt := 73) dX3_last_64 (by decide) h (fun _ h => ?_) (fun _ h => ?_)
      · refine gr_iload_n dX3_last_67 rfl rfl ?_
        refine gr_iconst dX3_last_68 gk_i_1 ?_
        refine gr_iload_n dX3_last_69 rfl rfl ?_
        refine gr_ishl dX3_last_70 ?_
        refine gr_ior dX3_last_71 ?_
        refine gr_istore_n (lv' := [some (.ref 0), some (.int a1), some (.int (v2 ||| ((1 : Int32) <<< (v3 &&& 31)))), some (.int v3)]) dX3_last_72 rfl (by decide) rfl ?_
        refine gr_iinc (lv' := [some (.ref 0), some (.int a1), some (.int (v2 ||| ((1 : Int32) <<< (v3 &&& 31)))), some (.int (v3 + (1 : Int32)))]) dX3_last_73 rfl gk_i_1 (by decide) rfl ?_
        refine gr_goto (tgt := 30) dX3_last_76 (by decide) ?_
        exact ih _ _ h
      · refine gr_iinc (lv' := [some (.ref 0), some (.int a1), some (.int v2), some (.int (v3 + (1 : Int32)))]) dX3_last_73 rfl gk_i_1 (by decide) rfl ?_
        refine gr_goto (tgt := 30) dX3_last_76 (by decide) ?_
        exact ih _ _ h
    · refine gn_wkn [false, false, true, false] rfl ?_
      exact hk _ h
def f_X3_last (n : Nat) (m : gn_M) (p0 : Int32) : Option (Int32) := (f_X0_holds m p0).bind (fun x1 => (if x1 = 0 then some (-1 : Int32) else (if (m.1 7 6) = 0 then some (-4 : Int32) else L_X3_last_30 n m p0 (fun (e4 : Int32) => some e4) n (0 : Int32) (0 : Int32))))
set_option maxRecDepth 100000 in
set_option maxHeartbeats 4000000 in
theorem c_X3_last {n : Nat} {m : gn_M} {p0 : Int32} {v : Int32} (h : f_X3_last n m p0 = some v) : gn_Cl yX3_last cX3_last 4 (some .int) 2 46 [.ref 0, .int p0] m (some (.int v)) m := by
  rw [f_X3_last] at h
  refine gn_met (lv := [some (.ref 0), some (.int p0), none, none]) pl_X3 rfl rfl (Nat.le_of_ble_eq_true rfl) ?_
  refine gr_aload_n dX3_last_0 rfl rfl ?_
  refine gr_getR q_0_2 fl_X3_24 dX3_last_1 ?_
  refine gr_iload_n dX3_last_4 rfl rfl ?_
  obtain ⟨x1, hx1, h⟩ := gn_bd h
  refine gc_VNI (c_X0_holds hx1) my_X0_holds mv_X0_holds ob_7 ml_X3_155 rfl rfl ⟨Nat.le_of_ble_eq_true rfl, Nat.le_of_ble_eq_true rfl⟩ (Nat.le_of_ble_eq_true rfl) dX3_last_5 (fun fx1 => ?_)
  refine gr_if_ne (tgt := 13) dX3_last_8 (by decide) h (fun _ h => ?_) (fun _ h => ?_)
  · refine gr_iconst dX3_last_11 gk_i_m1 ?_
    exact gq_retI dX3_last_12 rfl h
  · refine gr_aload_n dX3_last_13 rfl rfl ?_
    refine gr_getR q_0_2 fl_X3_24 dX3_last_14 ?_
    refine gr_getIN q_7_6 fl_X3_126 dX3_last_17 ?_
    refine gr_if_ne (tgt := 26) dX3_last_20 (by decide) h (fun _ h => ?_) (fun _ h => ?_)
    · refine gr_bipush dX3_last_23 gk_b_m4 ?_
      exact gq_retI dX3_last_25 rfl h
    · refine gr_iconst dX3_last_26 gk_i_0 ?_
      refine gr_istore_n (lv' := [some (.ref 0), some (.int p0), some (.int (0 : Int32)), none]) dX3_last_27 rfl (by decide) rfl ?_
      refine gr_iconst dX3_last_28 gk_i_0 ?_
      refine gr_istore_n (lv' := [some (.ref 0), some (.int p0), some (.int (0 : Int32)), some (.int (0 : Int32))]) dX3_last_29 rfl (by decide) rfl ?_
      refine l_X3_last_30 (fun e4 h => ?_) _ _ _ h
      refine gr_iload_n dX3_last_79 rfl rfl ?_
      exact gq_retI dX3_last_80 rfl h
def L_X3_refusalOfPairs_52 (n : Nat) (m : gn_M) (a2 : Int32) (k : Unit → Option (Int32 × gn_M)) : Nat → Int32 → Option (Int32 × gn_M)
  | 0, _ => none
  | f + 1, v4 => gn_rd m 3 6 a2 (fun x4 => (if v4 < x4 then gn_ra 10 6 a2 (fun k5 => gn_rd m k5 40 v4 (fun x6 => (f_X0_holds m x6).bind (fun x7 => (if x7 = 0 then (f_X3_found m (3 : Int32)).bind (fun x8 => some (x8.1, x8.2)) else L_X3_refusalOfPairs_52 n m a2 k f (v4 + (1 : Int32)))))) else k ()))
set_option maxRecDepth 100000 in
set_option maxHeartbeats 4000000 in
theorem l_X3_refusalOfPairs_52 {n : Nat} {m : gn_M} {a2 : Int32} {k : Unit → Option (Int32 × gn_M)} {v : Int32 × gn_M} (hk : ∀ (u : Unit), k u = some v → gn_Go RX3 cX3_refusalOfPairs 5 2 43 (some .int) none 100 [none, none, none, none, none] [] m (some (.int v.1)) v.2) : ∀ (f : Nat) (v4 : Int32), L_X3_refusalOfPairs_52 n m a2 k f v4 = some v → gn_Go RX3 cX3_refusalOfPairs 5 2 43 (some .int) none 52 [some (.ref 0), none, some (.int a2), none, some (.int v4)] [] m (some (.int v.1)) v.2 := by
  intro f
  induction f with
  | zero =>
    intro v4 h
    cases h
  | succ f ih =>
    intro v4 h
    rw [L_X3_refusalOfPairs_52] at h
    refine gr_iload dX3_refusalOfPairs_52 rfl ?_
    refine gr_aload_n dX3_refusalOfPairs_54 rfl rfl ?_
    refine gr_getR q_0_0 fl_X3_14 dX3_refusalOfPairs_55 ?_
    refine gr_getRN q_1_1 fl_X3_92 dX3_refusalOfPairs_58 ?_
    refine gr_iload_n dX3_refusalOfPairs_61 rfl rfl ?_
    refine gq_iaload s_3 dX3_refusalOfPairs_62 h (fun x4 h => ?_)
    refine gr_icmp_ge (tgt := 100) dX3_refusalOfPairs_63 (by decide) h (fun _ h => ?_) (fun _ h => ?_)
    · refine gr_aload_n dX3_refusalOfPairs_66 rfl rfl ?_
      refine gr_getR q_0_2 fl_X3_24 dX3_refusalOfPairs_67 ?_
      refine gr_aload_n dX3_refusalOfPairs_70 rfl rfl ?_
      refine gr_getR q_0_0 fl_X3_14 dX3_refusalOfPairs_71 ?_
      refine gr_getRN q_1_0 fl_X3_81 dX3_refusalOfPairs_74 ?_
      refine gr_iload_n dX3_refusalOfPairs_77 rfl rfl ?_
      refine gq_aaload ra_2 dX3_refusalOfPairs_78 h (fun k5 hk5 h => ?_)
      refine gr_iload dX3_refusalOfPairs_79 rfl ?_
      refine gq_iaload hk5 dX3_refusalOfPairs_81 h (fun x6 h => ?_)
      obtain ⟨x7, hx7, h⟩ := gn_bd h
      refine gc_VNI (c_X0_holds hx7) my_X0_holds mv_X0_holds ob_7 ml_X3_155 rfl rfl ⟨Nat.le_of_ble_eq_true rfl, Nat.le_of_ble_eq_true rfl⟩ (Nat.le_of_ble_eq_true rfl) dX3_refusalOfPairs_82 (fun fx7 => ?_)
      refine gr_if_ne (tgt := 94) dX3_refusalOfPairs_85 (by decide) h (fun _ h => ?_) (fun _ h => ?_)
      · refine gr_aload_n dX3_refusalOfPairs_88 rfl rfl ?_
        refine gr_iconst dX3_refusalOfPairs_89 gk_i_3 ?_
        obtain ⟨x8, hx8, h⟩ := gn_bd h
        refine gc_VI (c_X3_found hx8) my_X3_found mv_X3_found ob_0 ml_X3_99 rfl rfl ⟨Nat.le_of_ble_eq_true rfl, Nat.le_of_ble_eq_true rfl⟩ (Nat.le_of_ble_eq_true rfl) dX3_refusalOfPairs_90 (fun fx8 => ?_)
        exact gq_retIM dX3_refusalOfPairs_93 rfl h
      · refine gr_iinc (lv' := [some (.ref 0), none, some (.int a2), none, some (.int (v4 + (1 : Int32)))]) dX3_refusalOfPairs_94 rfl gk_i_1 (by decide) rfl ?_
        refine gr_goto (tgt := 52) dX3_refusalOfPairs_97 (by decide) ?_
        exact ih _ h
    · refine gn_wkn [false, false, false, false, false] rfl ?_
      exact hk _ h
def f_X3_refusalOfPairs (n : Nat) (m : gn_M) (p0 : Int32) (p1 : Int32) : Option (Int32 × gn_M) := (f_X0_numbers m p0).bind (fun x1 => (if x1 = 0 then some ((-1 : Int32), m) else (f_X3_refusalOfStrip_r m p1).bind (fun x2 => (if x2.1 = 0 then gn_rd x2.2 3 6 p1 (fun x3 => (if (x3 - x3 / (2 : Int32) * (2 : Int32)) = 0 then L_X3_refusalOfPairs_52 n x2.2 p1 (fun (_ : Unit) => some ((0 : Int32), x2.2)) n (0 : Int32) else (f_X3_found x2.2 (5 : Int32)).bind (fun x9 => some (x9.1, x9.2)))) else some (x2.1, x2.2)))))
set_option maxRecDepth 100000 in
set_option maxHeartbeats 4000000 in
theorem c_X3_refusalOfPairs {n : Nat} {m : gn_M} {p0 : Int32} {p1 : Int32} {v : Int32 × gn_M} (h : f_X3_refusalOfPairs n m p0 p1 = some v) : gn_Cl yX3_refusalOfPairs cX3_refusalOfPairs 5 (some .int) 2 43 [.ref 0, .int p0, .int p1] m (some (.int v.1)) v.2 := by
  rw [f_X3_refusalOfPairs] at h
  refine gn_met (lv := [some (.ref 0), some (.int p0), some (.int p1), none, none]) pl_X3 rfl rfl (Nat.le_of_ble_eq_true rfl) ?_
  refine gr_aload_n dX3_refusalOfPairs_0 rfl rfl ?_
  refine gr_getR q_0_2 fl_X3_24 dX3_refusalOfPairs_1 ?_
  refine gr_iload_n dX3_refusalOfPairs_4 rfl rfl ?_
  obtain ⟨x1, hx1, h⟩ := gn_bd h
  refine gc_VNI (c_X0_numbers hx1) my_X0_numbers mv_X0_numbers ob_7 ml_X3_129 rfl rfl ⟨Nat.le_of_ble_eq_true rfl, Nat.le_of_ble_eq_true rfl⟩ (Nat.le_of_ble_eq_true rfl) dX3_refusalOfPairs_5 (fun fx1 => ?_)
  refine gr_if_ne (tgt := 13) dX3_refusalOfPairs_8 (by decide) h (fun _ h => ?_) (fun _ h => ?_)
  · refine gr_iconst dX3_refusalOfPairs_11 gk_i_m1 ?_
    exact gq_retIM dX3_refusalOfPairs_12 rfl h
  · refine gr_aload_n dX3_refusalOfPairs_13 rfl rfl ?_
    refine gr_aload_n dX3_refusalOfPairs_14 rfl rfl ?_
    refine gr_getR q_0_0 fl_X3_14 dX3_refusalOfPairs_15 ?_
    refine gr_iload_n dX3_refusalOfPairs_18 rfl rfl ?_
    obtain ⟨x2, hx2, h⟩ := gn_bd h
    refine gc_VI (c_X3_refusalOfStrip_r hx2) my_X3_refusalOfStrip mv_X3_refusalOfStrip ob_0 ml_X3_88 rfl rfl ⟨Nat.le_of_ble_eq_true rfl, Nat.le_of_ble_eq_true rfl⟩ (Nat.le_of_ble_eq_true rfl) dX3_refusalOfPairs_19 (fun fx2 => ?_)
    refine gr_istore_n (lv' := [some (.ref 0), some (.int p0), some (.int p1), some (.int x2.1), none]) dX3_refusalOfPairs_22 rfl (by decide) rfl ?_
    refine gr_iload_n dX3_refusalOfPairs_23 rfl rfl ?_
    refine gr_if_eq (tgt := 29) dX3_refusalOfPairs_24 (by decide) h (fun _ h => ?_) (fun _ h => ?_)
    · refine gr_aload_n dX3_refusalOfPairs_29 rfl rfl ?_
      refine gr_getR q_0_0 fl_X3_14 dX3_refusalOfPairs_30 ?_
      refine gr_getRN q_1_1 fl_X3_92 dX3_refusalOfPairs_33 ?_
      refine gr_iload_n dX3_refusalOfPairs_36 rfl rfl ?_
      refine gq_iaload s_3 dX3_refusalOfPairs_37 h (fun x3 h => ?_)
      refine gr_iconst dX3_refusalOfPairs_38 gk_i_2 ?_
      refine gr_irem dX3_refusalOfPairs_39 (by decide) ?_
      refine gr_if_eq (tgt := 49) dX3_refusalOfPairs_40 (by decide) h (fun _ h => ?_) (fun _ h => ?_)
      · refine gr_iconst dX3_refusalOfPairs_49 gk_i_0 ?_
        refine gr_istore (lv' := [some (.ref 0), some (.int p0), some (.int p1), some (.int x2.1), some (.int (0 : Int32))]) dX3_refusalOfPairs_50 (by decide) rfl ?_
        refine gn_wkn [true, false, true, false, true] rfl ?_
        refine l_X3_refusalOfPairs_52 (fun _ h => ?_) _ _ h
        refine gr_iconst dX3_refusalOfPairs_100 gk_i_0 ?_
        exact gq_retIM dX3_refusalOfPairs_101 rfl h
      · refine gr_aload_n dX3_refusalOfPairs_43 rfl rfl ?_
        refine gr_iconst dX3_refusalOfPairs_44 gk_i_5 ?_
        obtain ⟨x9, hx9, h⟩ := gn_bd h
        refine gc_VI (c_X3_found hx9) my_X3_found mv_X3_found ob_0 ml_X3_99 rfl rfl ⟨Nat.le_of_ble_eq_true rfl, Nat.le_of_ble_eq_true rfl⟩ (Nat.le_of_ble_eq_true rfl) dX3_refusalOfPairs_45 (fun fx9 => ?_)
        exact gq_retIM dX3_refusalOfPairs_48 rfl h
    · refine gr_iload_n dX3_refusalOfPairs_27 rfl rfl ?_
      exact gq_retIM dX3_refusalOfPairs_28 rfl h
def L_X3_fitsPairs_14 (n : Nat) (m : gn_M) (a1 : Int32) (a2 : Int32) (a3 : Int32) (a4 : Nat) (k : Unit → Option (Int32)) : Nat → Int32 → Option (Int32)
  | 0, _ => none
  | f + 1, v5 => gn_rd m 3 6 a3 (fun x2 => (if (v5 + (1 : Int32)) < x2 then gn_rd m a4 40 v5 (fun x3 => (f_X3_tellingAs a1 a2 x3).bind (fun x4 => gn_rd m a4 40 (v5 + (1 : Int32)) (fun x5 => (if x4 = x5 then L_X3_fitsPairs_14 n m a1 a2 a3 a4 k f (v5 + (2 : Int32)) else some (0 : Int32))))) else k ()))
set_option maxRecDepth 100000 in
set_option maxHeartbeats 4000000 in
theorem l_X3_fitsPairs_14 {n : Nat} {m : gn_M} {a1 : Int32} {a2 : Int32} {a3 : Int32} {a4 : Nat} {k : Unit → Option (Int32)} {v : Int32} (ha4 : gn_S[a4]? = some (.inl (0, 40))) (hk : ∀ (u : Unit), k u = some v → gn_Go RX3 cX3_fitsPairs 6 1 23 (some .boolean) none 58 [none, none, none, none, none, none] [] m (some (.int v)) m) : ∀ (f : Nat) (v5 : Int32), L_X3_fitsPairs_14 n m a1 a2 a3 a4 k f v5 = some v → gn_Go RX3 cX3_fitsPairs 6 1 23 (some .boolean) none 14 [some (.ref 0), some (.int a1), some (.int a2), some (.int a3), some (.ref a4), some (.int v5)] [] m (some (.int v)) m := by
  intro f
  induction f with
  | zero =>
    intro v5 h
    cases h
  | succ f ih =>
    intro v5 h
    rw [L_X3_fitsPairs_14] at h
    refine gr_iload dX3_fitsPairs_14 rfl ?_
    refine gr_iconst dX3_fitsPairs_16 gk_i_1 ?_
    refine gr_iadd dX3_fitsPairs_17 ?_
    refine gr_aload_n dX3_fitsPairs_18 rfl rfl ?_
    refine gr_getR q_0_0 fl_X3_14 dX3_fitsPairs_19 ?_
    refine gr_getRN q_1_1 fl_X3_92 dX3_fitsPairs_22 ?_
    refine gr_iload_n dX3_fitsPairs_25 rfl rfl ?_
    refine gq_iaload s_3 dX3_fitsPairs_26 h (fun x2 h => ?_)
    refine gr_icmp_ge (tgt := 58) dX3_fitsPairs_27 (by decide) h (fun _ h => ?_) (fun _ h => ?_)
    · refine gr_iload_n dX3_fitsPairs_30 rfl rfl ?_
      refine gr_iload_n dX3_fitsPairs_31 rfl rfl ?_
      refine gr_aload dX3_fitsPairs_32 rfl ?_
      refine gr_iload dX3_fitsPairs_34 rfl ?_
      refine gq_iaload ha4 dX3_fitsPairs_36 h (fun x3 h => ?_)
      obtain ⟨x4, hx4, h⟩ := gn_bd h
      refine gc_SI (c_X3_tellingAs hx4) my_X3_tellingAs ms_X3_tellingAs ml_X3_158 rfl rfl ⟨Nat.le_of_ble_eq_true rfl, Nat.le_of_ble_eq_true rfl⟩ (Nat.le_of_ble_eq_true rfl) dX3_fitsPairs_37 (fun fx4 => ?_)
      refine gr_aload dX3_fitsPairs_40 rfl ?_
      refine gr_iload dX3_fitsPairs_42 rfl ?_
      refine gr_iconst dX3_fitsPairs_44 gk_i_1 ?_
      refine gr_iadd dX3_fitsPairs_45 ?_
      refine gq_iaload ha4 dX3_fitsPairs_46 h (fun x5 h => ?_)
      refine gr_icmp_eq (tgt := 52) dX3_fitsPairs_47 (by decide) h (fun _ h => ?_) (fun _ h => ?_)
      · refine gr_iinc (lv' := [some (.ref 0), some (.int a1), some (.int a2), some (.int a3), some (.ref a4), some (.int (v5 + (2 : Int32)))]) dX3_fitsPairs_52 rfl gk_i_2 (by decide) rfl ?_
        refine gr_goto (tgt := 14) dX3_fitsPairs_55 (by decide) ?_
        exact ih _ h
      · refine gr_iconst dX3_fitsPairs_50 gk_i_0 ?_
        exact gq_retI dX3_fitsPairs_51 rfl h
    · refine gn_wkn [false, false, false, false, false, false] rfl ?_
      exact hk _ h
def f_X3_fitsPairs (n : Nat) (m : gn_M) (p0 : Int32) (p1 : Int32) (p2 : Int32) : Option (Int32) := gn_ra 10 6 p2 (fun k1 => L_X3_fitsPairs_14 n m p0 p1 p2 k1 (fun (_ : Unit) => some (1 : Int32)) n (0 : Int32))
set_option maxRecDepth 100000 in
set_option maxHeartbeats 4000000 in
theorem c_X3_fitsPairs {n : Nat} {m : gn_M} {p0 : Int32} {p1 : Int32} {p2 : Int32} {v : Int32} (h : f_X3_fitsPairs n m p0 p1 p2 = some v) : gn_Cl yX3_fitsPairs cX3_fitsPairs 6 (some .boolean) 1 23 [.ref 0, .int p0, .int p1, .int p2] m (some (.int v)) m := by
  rw [f_X3_fitsPairs] at h
  refine gn_met (lv := [some (.ref 0), some (.int p0), some (.int p1), some (.int p2), none, none]) pl_X3 rfl rfl (Nat.le_of_ble_eq_true rfl) ?_
  refine gr_aload_n dX3_fitsPairs_0 rfl rfl ?_
  refine gr_getR q_0_0 fl_X3_14 dX3_fitsPairs_1 ?_
  refine gr_getRN q_1_0 fl_X3_81 dX3_fitsPairs_4 ?_
  refine gr_iload_n dX3_fitsPairs_7 rfl rfl ?_
  refine gq_aaload ra_2 dX3_fitsPairs_8 h (fun k1 hk1 h => ?_)
  refine gr_astore (lv' := [some (.ref 0), some (.int p0), some (.int p1), some (.int p2), some (.ref k1), none]) dX3_fitsPairs_9 (by decide) rfl ?_
  refine gr_iconst dX3_fitsPairs_11 gk_i_0 ?_
  refine gr_istore (lv' := [some (.ref 0), some (.int p0), some (.int p1), some (.int p2), some (.ref k1), some (.int (0 : Int32))]) dX3_fitsPairs_12 (by decide) rfl ?_
  refine l_X3_fitsPairs_14 hk1 (fun _ h => ?_) _ _ h
  refine gr_iconst dX3_fitsPairs_58 gk_i_1 ?_
  exact gq_retI dX3_fitsPairs_59 rfl h
def L_X3_kindsByPairs_5 (n : Nat) (m : gn_M) (a1 : Int32) (a2 : Int32) (k : Int32 → Option (Int32)) : Nat → Int32 → Int32 → Option (Int32)
  | 0, _, _ => none
  | f + 1, v3, v4 => (if v4 < (6 : Int32) then (f_X3_fitsPairs n m v4 a1 a2).bind (fun x1 => (if x1 = 0 then L_X3_kindsByPairs_5 n m a1 a2 k f v3 (v4 + (1 : Int32)) else L_X3_kindsByPairs_5 n m a1 a2 k f (v3 ||| ((1 : Int32) <<< (v4 &&& 31))) (v4 + (1 : Int32)))) else k v3)
set_option maxRecDepth 100000 in
set_option maxHeartbeats 4000000 in
theorem l_X3_kindsByPairs_5 {n : Nat} {m : gn_M} {a1 : Int32} {a2 : Int32} {k : Int32 → Option (Int32)} {v : Int32} (hk : ∀ (e3 : Int32), k e3 = some v → gn_Go RX3 cX3_kindsByPairs 5 2 48 (some .int) none 36 [none, none, none, some (.int e3), none] [] m (some (.int v)) m) : ∀ (f : Nat) (v3 : Int32) (v4 : Int32), L_X3_kindsByPairs_5 n m a1 a2 k f v3 v4 = some v → gn_Go RX3 cX3_kindsByPairs 5 2 48 (some .int) none 5 [some (.ref 0), some (.int a1), some (.int a2), some (.int v3), some (.int v4)] [] m (some (.int v)) m := by
  intro f
  induction f with
  | zero =>
    intro v3 v4 h
    cases h
  | succ f ih =>
    intro v3 v4 h
    rw [L_X3_kindsByPairs_5] at h
    refine gr_iload dX3_kindsByPairs_5 rfl ?_
    refine gr_bipush dX3_kindsByPairs_7 gk_b_6 ?_
    refine gr_icmp_ge (tgt := 36) dX3_kindsByPairs_9 (by decide) h (fun _ h => ?_) (fun _ h => ?_)
    · refine gr_aload_n dX3_kindsByPairs_12 rfl rfl ?_
      refine gr_iload dX3_kindsByPairs_13 rfl ?_
      refine gr_iload_n dX3_kindsByPairs_15 rfl rfl ?_
      refine gr_iload_n dX3_kindsByPairs_16 rfl rfl ?_
      obtain ⟨x1, hx1, h⟩ := gn_bd h
      refine gc_VI (c_X3_fitsPairs hx1) my_X3_fitsPairs mv_X3_fitsPairs ob_0 ml_X3_335 rfl rfl ⟨Nat.le_of_ble_eq_true rfl, Nat.le_of_ble_eq_true rfl⟩ (Nat.le_of_ble_eq_true rfl) dX3_kindsByPairs_17 (fun fx1 => ?_)
      refine gr_if_eq (tgt := 30) dX3_kindsByPairs_20 (by decide) h (fun _ h => ?_) (fun _ h => ?_)
      · refine gr_iinc (lv' := [some (.ref 0), some (.int a1), some (.int a2), some (.int v3), some (.int (v4 + (1 : Int32)))]) dX3_kindsByPairs_30 rfl gk_i_1 (by decide) rfl ?_
        refine gr_goto (tgt := 5) dX3_kindsByPairs_33 (by decide) ?_
        exact ih _ _ h
      · refine gr_iload_n dX3_kindsByPairs_23 rfl rfl ?_
        refine gr_iconst dX3_kindsByPairs_24 gk_i_1 ?_
        refine gr_iload dX3_kindsByPairs_25 rfl ?_
        refine gr_ishl dX3_kindsByPairs_27 ?_
        refine gr_ior dX3_kindsByPairs_28 ?_
        refine gr_istore_n (lv' := [some (.ref 0), some (.int a1), some (.int a2), some (.int (v3 ||| ((1 : Int32) <<< (v4 &&& 31)))), some (.int v4)]) dX3_kindsByPairs_29 rfl (by decide) rfl ?_
        refine gr_iinc (lv' := [some (.ref 0), some (.int a1), some (.int a2), some (.int (v3 ||| ((1 : Int32) <<< (v4 &&& 31)))), some (.int (v4 + (1 : Int32)))]) dX3_kindsByPairs_30 rfl gk_i_1 (by decide) rfl ?_
        refine gr_goto (tgt := 5) dX3_kindsByPairs_33 (by decide) ?_
        exact ih _ _ h
    · refine gn_wkn [false, false, false, true, false] rfl ?_
      exact hk _ h
def f_X3_kindsByPairs (n : Nat) (m : gn_M) (p0 : Int32) (p1 : Int32) : Option (Int32) := L_X3_kindsByPairs_5 n m p0 p1 (fun (e2 : Int32) => some e2) n (0 : Int32) (0 : Int32)
set_option maxRecDepth 100000 in
set_option maxHeartbeats 4000000 in
theorem c_X3_kindsByPairs {n : Nat} {m : gn_M} {p0 : Int32} {p1 : Int32} {v : Int32} (h : f_X3_kindsByPairs n m p0 p1 = some v) : gn_Cl yX3_kindsByPairs cX3_kindsByPairs 5 (some .int) 2 48 [.ref 0, .int p0, .int p1] m (some (.int v)) m := by
  rw [f_X3_kindsByPairs] at h
  refine gn_met (lv := [some (.ref 0), some (.int p0), some (.int p1), none, none]) pl_X3 rfl rfl (Nat.le_of_ble_eq_true rfl) ?_
  refine gr_iconst dX3_kindsByPairs_0 gk_i_0 ?_
  refine gr_istore_n (lv' := [some (.ref 0), some (.int p0), some (.int p1), some (.int (0 : Int32)), none]) dX3_kindsByPairs_1 rfl (by decide) rfl ?_
  refine gr_iconst dX3_kindsByPairs_2 gk_i_0 ?_
  refine gr_istore (lv' := [some (.ref 0), some (.int p0), some (.int p1), some (.int (0 : Int32)), some (.int (0 : Int32))]) dX3_kindsByPairs_3 (by decide) rfl ?_
  refine l_X3_kindsByPairs_5 (fun e2 h => ?_) _ _ _ h
  refine gr_iload_n dX3_kindsByPairs_36 rfl rfl ?_
  exact gq_retI dX3_kindsByPairs_37 rfl h
def f_X3_kinds (n : Nat) (m : gn_M) (p0 : Int32) (p1 : Int32) : Option (Int32 × gn_M) := (f_X3_refusalOfPairs n m p0 p1).bind (fun x1 => (if x1.1 = 0 then (f_X3_kindsByPairs n x1.2 p0 p1).bind (fun x2 => some (x2, x1.2)) else some (x1.1, x1.2)))
set_option maxRecDepth 100000 in
set_option maxHeartbeats 4000000 in
theorem c_X3_kinds {n : Nat} {m : gn_M} {p0 : Int32} {p1 : Int32} {v : Int32 × gn_M} (h : f_X3_kinds n m p0 p1 = some v) : gn_Cl yX3_kinds cX3_kinds 4 (some .int) 3 72 [.ref 0, .int p0, .int p1] m (some (.int v.1)) v.2 := by
  rw [f_X3_kinds] at h
  refine gn_met (lv := [some (.ref 0), some (.int p0), some (.int p1), none]) pl_X3 rfl rfl (Nat.le_of_ble_eq_true rfl) ?_
  refine gr_aload_n dX3_kinds_0 rfl rfl ?_
  refine gr_iload_n dX3_kinds_1 rfl rfl ?_
  refine gr_iload_n dX3_kinds_2 rfl rfl ?_
  obtain ⟨x1, hx1, h⟩ := gn_bd h
  refine gc_VI (c_X3_refusalOfPairs hx1) my_X3_refusalOfPairs mv_X3_refusalOfPairs ob_0 ml_X3_253 rfl rfl ⟨Nat.le_of_ble_eq_true rfl, Nat.le_of_ble_eq_true rfl⟩ (Nat.le_of_ble_eq_true rfl) dX3_kinds_3 (fun fx1 => ?_)
  refine gr_istore_n (lv' := [some (.ref 0), some (.int p0), some (.int p1), some (.int x1.1)]) dX3_kinds_6 rfl (by decide) rfl ?_
  refine gr_iload_n dX3_kinds_7 rfl rfl ?_
  refine gr_if_eq (tgt := 15) dX3_kinds_8 (by decide) h (fun _ h => ?_) (fun _ h => ?_)
  · refine gr_aload_n dX3_kinds_15 rfl rfl ?_
    refine gr_iload_n dX3_kinds_16 rfl rfl ?_
    refine gr_iload_n dX3_kinds_17 rfl rfl ?_
    obtain ⟨x2, hx2, h⟩ := gn_bd h
    refine gc_VI (c_X3_kindsByPairs hx2) my_X3_kindsByPairs mv_X3_kindsByPairs ob_0 ml_X3_256 rfl rfl ⟨Nat.le_of_ble_eq_true rfl, Nat.le_of_ble_eq_true rfl⟩ (Nat.le_of_ble_eq_true rfl) dX3_kinds_18 (fun fx2 => ?_)
    exact gq_retIM dX3_kinds_21 rfl h
  · refine gr_iload_n dX3_kinds_11 rfl rfl ?_
    refine gr_goto (tgt := 21) dX3_kinds_12 (by decide) ?_
    exact gq_retIM dX3_kinds_21 rfl h
def L_X3_greatestPart_18 (n : Nat) (a0 : Int32) (a1 : Int32) (a2 : Int32) (a3 : Int32) (a4 : Int32) (k : Int32 → Option (Int32)) : Nat → Int32 → Int32 → Option (Int32)
  | 0, _, _ => none
  | f + 1, v5, v6 => (if v6 < (6 : Int32) then (f_X3_isIn a0 a4).bind (fun x1 => gn_jn (fun (j2 : Int32) => (if j2 = 0 then L_X3_greatestPart_18 n a0 a1 a2 a3 a4 k f v5 (v6 + (1 : Int32)) else (f_X3_tellingAs a4 a1 a2).bind (fun x4 => (f_X3_tellingAs v6 a1 a2).bind (fun x5 => (if x4 = x5 then L_X3_greatestPart_18 n a0 a1 a2 a3 a4 k f (v5 + (1 : Int32)) (v6 + (1 : Int32)) else L_X3_greatestPart_18 n a0 a1 a2 a3 a4 k f v5 (v6 + (1 : Int32))))))) (fun J3 => (if x1 = 0 then J3 (0 : Int32) else (f_X3_isIn a0 v6).bind (fun x6 => (if x6 = 0 then J3 (0 : Int32) else J3 (1 : Int32)))))) else k v5)
set_option maxRecDepth 100000 in
set_option maxHeartbeats 4000000 in
theorem l_X3_greatestPart_18 {n : Nat} {m : gn_M} {a0 : Int32} {a1 : Int32} {a2 : Int32} {a3 : Int32} {a4 : Int32} {k : Int32 → Option (Int32)} {v : Int32} (hk : ∀ (e5 : Int32), k e5 = some v → gn_Go RX3 cX3_greatestPart 8 1 23 (some .int) none 81 [some (.int a0), some (.int a1), some (.int a2), some (.int a3), some (.int a4), some (.int e5), none, none] [] m (some (.int v)) m) : ∀ (f : Nat) (v5 : Int32) (v6 : Int32), L_X3_greatestPart_18 n a0 a1 a2 a3 a4 k f v5 v6 = some v → gn_Go RX3 cX3_greatestPart 8 1 23 (some .int) none 18 [some (.int a0), some (.int a1), some (.int a2), some (.int a3), some (.int a4), some (.int v5), some (.int v6), none] [] m (some (.int v)) m := by
  intro f
  induction f with
  | zero =>
    intro v5 v6 h
    cases h
  | succ f ih =>
    intro v5 v6 h
    rw [L_X3_greatestPart_18] at h
    refine gr_iload dX3_greatestPart_18 rfl ?_
    refine gr_bipush dX3_greatestPart_20 gk_b_6 ?_
    refine gr_icmp_ge (tgt := 81) dX3_greatestPart_22 (by decide) h (fun _ h => ?_) (fun _ h => ?_)
    · refine gr_iload_n dX3_greatestPart_25 rfl rfl ?_
      refine gr_iload dX3_greatestPart_26 rfl ?_
      obtain ⟨x1, hx1, h⟩ := gn_bd h
      refine gc_SI (c_X3_isIn hx1) my_X3_isIn ms_X3_isIn ml_X3_338 rfl rfl ⟨Nat.le_of_ble_eq_true rfl, Nat.le_of_ble_eq_true rfl⟩ (Nat.le_of_ble_eq_true rfl) dX3_greatestPart_28 (fun fx1 => ?_)
      refine gn_jnE (P := fun (j2 : Int32) => gn_Go RX3 cX3_greatestPart 8 1 23 (some .int) none 48 [some (.int a0), some (.int a1), some (.int a2), some (.int a3), some (.int a4), some (.int v5), some (.int v6), none] [.int j2] m (some (.int v)) m) h (fun j2 h => ?_) (fun J3 hJ3 h => ?_)
      · refine gr_istore (lv' := [some (.int a0), some (.int a1), some (.int a2), some (.int a3), some (.int a4), some (.int v5), some (.int v6), some (.int j2)]) dX3_greatestPart_48 (by decide) rfl ?_
        refine gr_iload dX3_greatestPart_50 rfl ?_
        refine gr_if_eq (tgt := 75) dX3_greatestPart_52 (by decide) h (fun _ h => ?_) (fun _ h => ?_)
        · refine gr_iinc (lv' := [some (.int a0), some (.int a1), some (.int a2), some (.int a3), some (.int a4), some (.int v5), some (.int (v6 + (1 : Int32))), some (.int j2)]) dX3_greatestPart_75 rfl gk_i_1 (by decide) rfl ?_
          refine gr_goto (tgt := 18) dX3_greatestPart_78 (by decide) ?_
          refine gn_wkn [true, true, true, true, true, true, true, false] rfl ?_
          exact ih _ _ h
        · refine gr_iload dX3_greatestPart_55 rfl ?_
          refine gr_iload_n dX3_greatestPart_57 rfl rfl ?_
          refine gr_iload_n dX3_greatestPart_58 rfl rfl ?_
          obtain ⟨x4, hx4, h⟩ := gn_bd h
          refine gc_SI (c_X3_tellingAs hx4) my_X3_tellingAs ms_X3_tellingAs ml_X3_158 rfl rfl ⟨Nat.le_of_ble_eq_true rfl, Nat.le_of_ble_eq_true rfl⟩ (Nat.le_of_ble_eq_true rfl) dX3_greatestPart_59 (fun fx4 => ?_)
          refine gr_iload dX3_greatestPart_62 rfl ?_
          refine gr_iload_n dX3_greatestPart_64 rfl rfl ?_
          refine gr_iload_n dX3_greatestPart_65 rfl rfl ?_
          obtain ⟨x5, hx5, h⟩ := gn_bd h
          refine gc_SI (c_X3_tellingAs hx5) my_X3_tellingAs ms_X3_tellingAs ml_X3_158 rfl rfl ⟨Nat.le_of_ble_eq_true rfl, Nat.le_of_ble_eq_true rfl⟩ (Nat.le_of_ble_eq_true rfl) dX3_greatestPart_66 (fun fx5 => ?_)
          refine gr_icmp_ne (tgt := 75) dX3_greatestPart_69 (by decide) h (fun _ h => ?_) (fun _ h => ?_)
          · refine gr_iinc (lv' := [some (.int a0), some (.int a1), some (.int a2), some (.int a3), some (.int a4), some (.int (v5 + (1 : Int32))), some (.int v6), some (.int j2)]) dX3_greatestPart_72 rfl gk_i_1 (by decide) rfl ?_
            refine gr_iinc (lv' := [some (.int a0), some (.int a1), some (.int a2), some (.int a3), some (.int a4), some (.int (v5 + (1 : Int32))), some (.int (v6 + (1 : Int32))), some (.int j2)]) dX3_greatestPart_75 rfl gk_i_1 (by decide) rfl ?_
            refine gr_goto (tgt := 18) dX3_greatestPart_78 (by decide) ?_
            refine gn_wkn [true, true, true, true, true, true, true, false] rfl ?_
            exact ih _ _ h
          · refine gr_iinc (lv' := [some (.int a0), some (.int a1), some (.int a2), some (.int a3), some (.int a4), some (.int v5), some (.int (v6 + (1 : Int32))), some (.int j2)]) dX3_greatestPart_75 rfl gk_i_1 (by decide) rfl ?_
            refine gr_goto (tgt := 18) dX3_greatestPart_78 (by decide) ?_
            refine gn_wkn [true, true, true, true, true, true, true, false] rfl ?_
            exact ih _ _ h
      · refine gr_if_eq (tgt := 47) dX3_greatestPart_31 (by decide) h (fun _ h => ?_) (fun _ h => ?_)
        · refine gr_iconst dX3_greatestPart_47 gk_i_0 ?_
          exact hJ3 (0 : Int32) h
        · refine gr_iload_n dX3_greatestPart_34 rfl rfl ?_
          refine gr_iload dX3_greatestPart_35 rfl ?_
          obtain ⟨x6, hx6, h⟩ := gn_bd h
          refine gc_SI (c_X3_isIn hx6) my_X3_isIn ms_X3_isIn ml_X3_338 rfl rfl ⟨Nat.le_of_ble_eq_true rfl, Nat.le_of_ble_eq_true rfl⟩ (Nat.le_of_ble_eq_true rfl) dX3_greatestPart_37 (fun fx6 => ?_)
          refine gr_if_eq (tgt := 47) dX3_greatestPart_40 (by decide) h (fun _ h => ?_) (fun _ h => ?_)
          · refine gr_iconst dX3_greatestPart_47 gk_i_0 ?_
            exact hJ3 (0 : Int32) h
          · refine gr_iconst dX3_greatestPart_43 gk_i_1 ?_
            refine gr_goto (tgt := 48) dX3_greatestPart_44 (by decide) ?_
            exact hJ3 (1 : Int32) h
    · refine gn_wkn [true, true, true, true, true, true, false, false] rfl ?_
      exact hk _ h
def L_X3_greatestPart_5 (n : Nat) (a0 : Int32) (a1 : Int32) (a2 : Int32) (k : Int32 → Option (Int32)) : Nat → Int32 → Int32 → Option (Int32)
  | 0, _, _ => none
  | f + 1, v3, v4 => (if v4 < (6 : Int32) then L_X3_greatestPart_18 n a0 a1 a2 v3 v4 (fun (e7 : Int32) => L_X3_greatestPart_5 n a0 a1 a2 k f (if v3 < e7 then e7 else v3) (v4 + (1 : Int32))) n (0 : Int32) (0 : Int32) else k v3)
set_option maxRecDepth 100000 in
set_option maxHeartbeats 4000000 in
theorem l_X3_greatestPart_5 {n : Nat} {m : gn_M} {a0 : Int32} {a1 : Int32} {a2 : Int32} {k : Int32 → Option (Int32)} {v : Int32} (hk : ∀ (e3 : Int32), k e3 = some v → gn_Go RX3 cX3_greatestPart 8 1 23 (some .int) none 94 [none, none, none, some (.int e3), none, none, none, none] [] m (some (.int v)) m) : ∀ (f : Nat) (v3 : Int32) (v4 : Int32), L_X3_greatestPart_5 n a0 a1 a2 k f v3 v4 = some v → gn_Go RX3 cX3_greatestPart 8 1 23 (some .int) none 5 [some (.int a0), some (.int a1), some (.int a2), some (.int v3), some (.int v4), none, none, none] [] m (some (.int v)) m := by
  intro f
  induction f with
  | zero =>
    intro v3 v4 h
    cases h
  | succ f ih =>
    intro v3 v4 h
    rw [L_X3_greatestPart_5] at h
    refine gr_iload dX3_greatestPart_5 rfl ?_
    refine gr_bipush dX3_greatestPart_7 gk_b_6 ?_
    refine gr_icmp_ge (tgt := 94) dX3_greatestPart_9 (by decide) h (fun _ h => ?_) (fun _ h => ?_)
    · refine gr_iconst dX3_greatestPart_12 gk_i_0 ?_
      refine gr_istore (lv' := [some (.int a0), some (.int a1), some (.int a2), some (.int v3), some (.int v4), some (.int (0 : Int32)), none, none]) dX3_greatestPart_13 (by decide) rfl ?_
      refine gr_iconst dX3_greatestPart_15 gk_i_0 ?_
      refine gr_istore (lv' := [some (.int a0), some (.int a1), some (.int a2), some (.int v3), some (.int v4), some (.int (0 : Int32)), some (.int (0 : Int32)), none]) dX3_greatestPart_16 (by decide) rfl ?_
      refine l_X3_greatestPart_18 (fun e7 h => ?_) _ _ _ h
      refine gr_iload_n dX3_greatestPart_81 rfl rfl ?_
      refine gr_iload dX3_greatestPart_82 rfl ?_
      refine gr_max ml_X3_341 w_max ⟨Nat.le_of_ble_eq_true rfl, Nat.le_of_ble_eq_true rfl⟩ dX3_greatestPart_84 ?_
      refine gr_istore_n (lv' := [some (.int a0), some (.int a1), some (.int a2), some (.int (if v3 < e7 then e7 else v3)), some (.int v4), some (.int e7), none, none]) dX3_greatestPart_87 rfl (by decide) rfl ?_
      refine gr_iinc (lv' := [some (.int a0), some (.int a1), some (.int a2), some (.int (if v3 < e7 then e7 else v3)), some (.int (v4 + (1 : Int32))), some (.int e7), none, none]) dX3_greatestPart_88 rfl gk_i_1 (by decide) rfl ?_
      refine gr_goto (tgt := 5) dX3_greatestPart_91 (by decide) ?_
      refine gn_wkn [true, true, true, true, true, false, false, false] rfl ?_
      exact ih _ _ h
    · refine gn_wkn [false, false, false, true, false, false, false, false] rfl ?_
      exact hk _ h
def f_X3_greatestPart (n : Nat) (p0 : Int32) (p1 : Int32) (p2 : Int32) : Option (Int32) := L_X3_greatestPart_5 n p0 p1 p2 (fun (e8 : Int32) => some e8) n (0 : Int32) (0 : Int32)
set_option maxRecDepth 100000 in
set_option maxHeartbeats 4000000 in
theorem c_X3_greatestPart {n : Nat} {m : gn_M} {p0 : Int32} {p1 : Int32} {p2 : Int32} {v : Int32} (h : f_X3_greatestPart n p0 p1 p2 = some v) : gn_Cl yX3_greatestPart cX3_greatestPart 8 (some .int) 1 23 [.int p0, .int p1, .int p2] m (some (.int v)) m := by
  rw [f_X3_greatestPart] at h
  refine gn_met (lv := [some (.int p0), some (.int p1), some (.int p2), none, none, none, none, none]) pl_X3 rfl rfl (Nat.le_of_ble_eq_true rfl) ?_
  refine gr_iconst dX3_greatestPart_0 gk_i_0 ?_
  refine gr_istore_n (lv' := [some (.int p0), some (.int p1), some (.int p2), some (.int (0 : Int32)), none, none, none, none]) dX3_greatestPart_1 rfl (by decide) rfl ?_
  refine gr_iconst dX3_greatestPart_2 gk_i_0 ?_
  refine gr_istore (lv' := [some (.int p0), some (.int p1), some (.int p2), some (.int (0 : Int32)), some (.int (0 : Int32)), none, none, none]) dX3_greatestPart_3 (by decide) rfl ?_
  refine l_X3_greatestPart_5 (fun e8 h => ?_) _ _ _ h
  refine gr_iload_n dX3_greatestPart_94 rfl rfl ?_
  exact gq_retI dX3_greatestPart_95 rfl h
