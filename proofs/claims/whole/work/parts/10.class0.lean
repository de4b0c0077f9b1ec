def f_X2_numbers_r (m : gn_M) (p0 : Int32) : Option (Int32) := (if p0 < 0 then some (0 : Int32) else (if p0 < (6 : Int32) then some (1 : Int32) else some (0 : Int32)))
set_option maxRecDepth 100000 in
set_option maxHeartbeats 4000000 in
theorem c_X2_numbers_r {m : gn_M} {p0 : Int32} {v : Int32} (h : f_X2_numbers_r m p0 = some v) : gn_Cl yX2_numbers cX2_numbers 2 (some .boolean) 0 0 [.ref 1, .int p0] m (some (.int v)) m := by
  rw [f_X2_numbers_r] at h
  refine gn_met (lv := [some (.ref 1), some (.int p0)]) pl_X2 rfl rfl (Nat.le_of_ble_eq_true rfl) ?_
  refine gr_iload_n dX2_numbers_0 rfl rfl ?_
  refine gr_if_lt (tgt := 17) dX2_numbers_1 (by decide) h (fun _ h => ?_) (fun _ h => ?_)
  · refine gr_iconst dX2_numbers_17 gk_i_0 ?_
    exact gq_retI dX2_numbers_18 rfl h
  · refine gr_iload_n dX2_numbers_4 rfl rfl ?_
    refine gr_aload_n dX2_numbers_5 rfl rfl ?_
    refine gr_getR q_1_1 fl_X2_14 dX2_numbers_6 ?_
    refine gr_alen (v := (6 : Int32)) s_3 (by decide) (by decide) dX2_numbers_9 ?_
    refine gr_icmp_ge (tgt := 17) dX2_numbers_10 (by decide) h (fun _ h => ?_) (fun _ h => ?_)
    · refine gr_iconst dX2_numbers_13 gk_i_1 ?_
      refine gr_goto (tgt := 18) dX2_numbers_14 (by decide) ?_
      exact gq_retI dX2_numbers_18 rfl h
    · refine gr_iconst dX2_numbers_17 gk_i_0 ?_
      exact gq_retI dX2_numbers_18 rfl h
def f_X2_numbers_t (m : gn_M) (p0 : Int32) : Option (Int32) := (if p0 < 0 then some (0 : Int32) else (if p0 < (4 : Int32) then some (1 : Int32) else some (0 : Int32)))
set_option maxRecDepth 100000 in
set_option maxHeartbeats 4000000 in
theorem c_X2_numbers_t {m : gn_M} {p0 : Int32} {v : Int32} (h : f_X2_numbers_t m p0 = some v) : gn_Cl yX2_numbers cX2_numbers 2 (some .boolean) 0 0 [.ref 4, .int p0] m (some (.int v)) m := by
  rw [f_X2_numbers_t] at h
  refine gn_met (lv := [some (.ref 4), some (.int p0)]) pl_X2 rfl rfl (Nat.le_of_ble_eq_true rfl) ?_
  refine gr_iload_n dX2_numbers_0 rfl rfl ?_
  refine gr_if_lt (tgt := 17) dX2_numbers_1 (by decide) h (fun _ h => ?_) (fun _ h => ?_)
  · refine gr_iconst dX2_numbers_17 gk_i_0 ?_
    exact gq_retI dX2_numbers_18 rfl h
  · refine gr_iload_n dX2_numbers_4 rfl rfl ?_
    refine gr_aload_n dX2_numbers_5 rfl rfl ?_
    refine gr_getR q_4_1 fl_X2_14 dX2_numbers_6 ?_
    refine gr_alen (v := (4 : Int32)) s_6 (by decide) (by decide) dX2_numbers_9 ?_
    refine gr_icmp_ge (tgt := 17) dX2_numbers_10 (by decide) h (fun _ h => ?_) (fun _ h => ?_)
    · refine gr_iconst dX2_numbers_13 gk_i_1 ?_
      refine gr_goto (tgt := 18) dX2_numbers_14 (by decide) ?_
      exact gq_retI dX2_numbers_18 rfl h
    · refine gr_iconst dX2_numbers_17 gk_i_0 ?_
      exact gq_retI dX2_numbers_18 rfl h
def f_X3_found (m : gn_M) (p0 : Int32) : Option (Int32 × gn_M) := gn_pf m 0 9 p0 (fun m1 => gn_rd m1 26 6 p0 (fun x2 => gn_wr m1 26 6 p0 (x2 + (1 : Int32)) (fun m3 => some ((-3 : Int32), m3))))
set_option maxRecDepth 100000 in
set_option maxHeartbeats 4000000 in
theorem c_X3_found {m : gn_M} {p0 : Int32} {v : Int32 × gn_M} (h : f_X3_found m p0 = some v) : gn_Cl yX3_found cX3_found 2 (some .int) 0 0 [.ref 0, .int p0] m (some (.int v.1)) v.2 := by
  rw [f_X3_found] at h
  refine gn_met (lv := [some (.ref 0), some (.int p0)]) pl_X3 rfl rfl (Nat.le_of_ble_eq_true rfl) ?_
  refine gr_aload_n dX3_found_0 rfl rfl ?_
  refine gr_iload_n dX3_found_1 rfl rfl ?_
  refine gq_putI q_0_9 rfl rfl fl_X3_53 dX3_found_2 h (fun m1 h => ?_)
  refine gr_aload_n dX3_found_5 rfl rfl ?_
  refine gr_getR q_0_8 fl_X3_50 dX3_found_6 ?_
  refine gr_iload_n dX3_found_9 rfl rfl ?_
  refine gr_dup2 dX3_found_10 rfl rfl ?_
  refine gq_iaload s_26 dX3_found_11 h (fun x2 h => ?_)
  refine gr_iconst dX3_found_12 gk_i_1 ?_
  refine gr_iadd dX3_found_13 ?_
  refine gq_iastore s_26 dX3_found_14 h (fun m3 h => ?_)
  refine gr_bipush dX3_found_15 gk_b_m3 ?_
  exact gq_retIM dX3_found_17 rfl h
def L_J7_fill_53178_5 (n : Nat) (a0 : Nat) (a0l : Nat) (a1 : Int32) (a3 : Int32) (k : gn_M → Option (gn_M)) : Nat → Int32 → gn_M → Option (gn_M)
  | 0, _, _ => none
  | f + 1, v2, m => (if v2 < a3 then gn_wr m a0 a0l v2 a1 (fun m1 => L_J7_fill_53178_5 n a0 a0l a1 a3 k f (v2 + (1 : Int32)) m1) else k m)
set_option maxRecDepth 100000 in
set_option maxHeartbeats 4000000 in
theorem l_J7_fill_53178_5 {n : Nat} {a0 : Nat} {a0l : Nat} {a1 : Int32} {a3 : Int32} {k : gn_M → Option (gn_M)} {v : gn_M} (ha0 : gn_S[a0]? = some (.inl (0, a0l))) (hk : ∀ (m1 : gn_M), k m1 = some v → gn_Go RJ7 cJ7_fill_53178 4 0 0 none none 20 [none, none, none, none] [] m1 none v) : ∀ (f : Nat) (v2 : Int32) (m : gn_M), L_J7_fill_53178_5 n a0 a0l a1 a3 k f v2 m = some v → gn_Go RJ7 cJ7_fill_53178 4 0 0 none none 5 [some (.ref a0), some (.int a1), some (.int v2), some (.int a3)] [] m none v := by
  intro f
  induction f with
  | zero =>
    intro v2 m h
    cases h
  | succ f ih =>
    intro v2 m h
    rw [L_J7_fill_53178_5] at h
    refine gr_iload_n dJ7_fill_53178_5 rfl rfl ?_
    refine gr_iload_n dJ7_fill_53178_6 rfl rfl ?_
    refine gr_icmp_ge (tgt := 20) dJ7_fill_53178_7 (by decide) h (fun _ h => ?_) (fun _ h => ?_)
    · refine gr_aload_n dJ7_fill_53178_10 rfl rfl ?_
      refine gr_iload_n dJ7_fill_53178_11 rfl rfl ?_
      refine gr_iload_n dJ7_fill_53178_12 rfl rfl ?_
      refine gq_iastore ha0 dJ7_fill_53178_13 h (fun m1 h => ?_)
      refine gr_iinc (lv' := [some (.ref a0), some (.int a1), some (.int (v2 + (1 : Int32))), some (.int a3)]) dJ7_fill_53178_14 rfl gk_i_1 (by decide) rfl ?_
      refine gr_goto (tgt := 5) dJ7_fill_53178_17 (by decide) ?_
      exact ih _ _ h
    · refine gn_wkn [false, false, false, false] rfl ?_
      exact hk _ h
def f_J7_fill_53178 (n : Nat) (m : gn_M) (p0 : Nat) (p0l : Nat) (p1 : Int32) : Option (gn_M) := L_J7_fill_53178_5 n p0 p0l p1 (Int32.ofNat p0l) (fun (m2 : gn_M) => some m2) n (0 : Int32) m
set_option maxRecDepth 100000 in
set_option maxHeartbeats 4000000 in
theorem c_J7_fill_53178 {n : Nat} {m : gn_M} {p0 : Nat} {p0l : Nat} {p1 : Int32} {v : gn_M} (hp0 : gn_S[p0]? = some (.inl (0, p0l))) (h : f_J7_fill_53178 n m p0 p0l p1 = some v) : gn_Cl yJ7_fill_53178 cJ7_fill_53178 4 none 0 0 [.ref p0, .int p1] m none v := by
  rw [f_J7_fill_53178] at h
  refine gn_met (lv := [some (.ref p0), some (.int p1), none, none]) pl_J7 rfl rfl (Nat.le_of_ble_eq_true rfl) ?_
  refine gr_iconst dJ7_fill_53178_0 gk_i_0 ?_
  refine gr_istore_n (lv' := [some (.ref p0), some (.int p1), some (.int (0 : Int32)), none]) dJ7_fill_53178_1 rfl (by decide) rfl ?_
  refine gr_aload_n dJ7_fill_53178_2 rfl rfl ?_
  refine gr_alen (v := (Int32.ofNat p0l)) hp0 (by decide) rfl dJ7_fill_53178_3 ?_
  refine gr_istore_n (lv' := [some (.ref p0), some (.int p1), some (.int (0 : Int32)), some (.int (Int32.ofNat p0l))]) dJ7_fill_53178_4 rfl (by decide) rfl ?_
  refine l_J7_fill_53178_5 hp0 (fun m2 h => ?_) _ _ _ h
  exact gq_retVM dJ7_fill_53178_20 trivial h
def f_X2_spread_r (n : Nat) (m : gn_M) (p0 : Int32) (p1 : Int32) (p2 : Int32) : Option (gn_M) := gn_ra 10 6 p0 (fun k1 => (f_J7_fill_53178 n m k1 40 p2).bind (fun x2 => gn_wr x2 3 6 p0 p1 (fun m3 => some m3)))
set_option maxRecDepth 100000 in
set_option maxHeartbeats 4000000 in
theorem c_X2_spread_r {n : Nat} {m : gn_M} {p0 : Int32} {p1 : Int32} {p2 : Int32} {v : gn_M} (h : f_X2_spread_r n m p0 p1 p2 = some v) : gn_Cl yX2_spread cX2_spread 4 none 1 23 [.ref 1, .int p0, .int p1, .int p2] m none v := by
  rw [f_X2_spread_r] at h
  refine gn_met (lv := [some (.ref 1), some (.int p0), some (.int p1), some (.int p2)]) pl_X2 rfl rfl (Nat.le_of_ble_eq_true rfl) ?_
  refine gr_aload_n dX2_spread_0 rfl rfl ?_
  refine gr_getR q_1_0 fl_X2_9 dX2_spread_1 ?_
  refine gr_iload_n dX2_spread_4 rfl rfl ?_
  refine gq_aaload ra_2 dX2_spread_5 h (fun k1 hk1 h => ?_)
  refine gr_iload_n dX2_spread_6 rfl rfl ?_
  obtain ⟨x2, hx2, h⟩ := gn_bd h
  refine gc_S0 (c_J7_fill_53178 hk1 hx2) my_J7_fill_53178 ms_J7_fill_53178 ml_X2_22 rfl rfl ⟨Nat.le_of_ble_eq_true rfl, Nat.le_of_ble_eq_true rfl⟩ (Nat.le_of_ble_eq_true rfl) dX2_spread_7 (fun fx2 => ?_)
  refine gr_aload_n dX2_spread_10 rfl rfl ?_
  refine gr_getR q_1_1 fl_X2_14 dX2_spread_11 ?_
  refine gr_iload_n dX2_spread_14 rfl rfl ?_
  refine gr_iload_n dX2_spread_15 rfl rfl ?_
  refine gq_iastore s_3 dX2_spread_16 h (fun m3 h => ?_)
  exact gq_retVM dX2_spread_17 trivial h
def f_X2_spread_t (n : Nat) (m : gn_M) (p0 : Int32) (p1 : Int32) (p2 : Int32) : Option (gn_M) := gn_ra 16 4 p0 (fun k1 => (f_J7_fill_53178 n m k1 60 p2).bind (fun x2 => gn_wr x2 6 4 p0 p1 (fun m3 => some m3)))
set_option maxRecDepth 100000 in
set_option maxHeartbeats 4000000 in
theorem c_X2_spread_t {n : Nat} {m : gn_M} {p0 : Int32} {p1 : Int32} {p2 : Int32} {v : gn_M} (h : f_X2_spread_t n m p0 p1 p2 = some v) : gn_Cl yX2_spread cX2_spread 4 none 1 23 [.ref 4, .int p0, .int p1, .int p2] m none v := by
  rw [f_X2_spread_t] at h
  refine gn_met (lv := [some (.ref 4), some (.int p0), some (.int p1), some (.int p2)]) pl_X2 rfl rfl (Nat.le_of_ble_eq_true rfl) ?_
  refine gr_aload_n dX2_spread_0 rfl rfl ?_
  refine gr_getR q_4_0 fl_X2_9 dX2_spread_1 ?_
  refine gr_iload_n dX2_spread_4 rfl rfl ?_
  refine gq_aaload ra_5 dX2_spread_5 h (fun k1 hk1 h => ?_)
  refine gr_iload_n dX2_spread_6 rfl rfl ?_
  obtain ⟨x2, hx2, h⟩ := gn_bd h
  refine gc_S0 (c_J7_fill_53178 hk1 hx2) my_J7_fill_53178 ms_J7_fill_53178 ml_X2_22 rfl rfl ⟨Nat.le_of_ble_eq_true rfl, Nat.le_of_ble_eq_true rfl⟩ (Nat.le_of_ble_eq_true rfl) dX2_spread_7 (fun fx2 => ?_)
  refine gr_aload_n dX2_spread_10 rfl rfl ?_
  refine gr_getR q_4_1 fl_X2_14 dX2_spread_11 ?_
  refine gr_iload_n dX2_spread_14 rfl rfl ?_
  refine gr_iload_n dX2_spread_15 rfl rfl ?_
  refine gq_iastore s_6 dX2_spread_16 h (fun m3 h => ?_)
  exact gq_retVM dX2_spread_17 trivial h
def f_X3_make_r (n : Nat) (m : gn_M) (p1 : Int32) (p2 : Int32) (p3 : Int32) : Option (Int32 × gn_M) := (f_X2_numbers_r m p1).bind (fun x1 => (if x1 = 0 then some ((-1 : Int32), m) else (if (m.1 1 2) < p2 then some ((-1 : Int32), m) else (if p2 < 0 then (f_X3_found m (5 : Int32)).bind (fun x2 => some (x2.1, x2.2)) else (f_X2_spread_r n m p1 p2 p3).bind (fun x3 => some (p2, x3))))))
set_option maxRecDepth 100000 in
set_option maxHeartbeats 4000000 in
theorem c_X3_make_r {n : Nat} {m : gn_M} {p1 : Int32} {p2 : Int32} {p3 : Int32} {v : Int32 × gn_M} (h : f_X3_make_r n m p1 p2 p3 = some v) : gn_Cl yX3_make cX3_make 5 (some .int) 2 46 [.ref 0, .ref 1, .int p1, .int p2, .int p3] m (some (.int v.1)) v.2 := by
  rw [f_X3_make_r] at h
  refine gn_met (lv := [some (.ref 0), some (.ref 1), some (.int p1), some (.int p2), some (.int p3)]) pl_X3 rfl rfl (Nat.le_of_ble_eq_true rfl) ?_
  refine gr_aload_n dX3_make_0 rfl rfl ?_
  refine gr_iload_n dX3_make_1 rfl rfl ?_
  obtain ⟨x1, hx1, h⟩ := gn_bd h
  refine gc_VNI (c_X2_numbers_r hx1) my_X2_numbers mv_X2_numbers ob_1 ml_X3_95 rfl rfl ⟨Nat.le_of_ble_eq_true rfl, Nat.le_of_ble_eq_true rfl⟩ (Nat.le_of_ble_eq_true rfl) dX3_make_2 (fun fx1 => ?_)
  refine gr_if_eq (tgt := 16) dX3_make_5 (by decide) h (fun _ h => ?_) (fun _ h => ?_)
  · refine gr_iconst dX3_make_16 gk_i_m1 ?_
    exact gq_retIM dX3_make_17 rfl h
  · refine gr_iload_n dX3_make_8 rfl rfl ?_
    refine gr_aload_n dX3_make_9 rfl rfl ?_
    refine gr_getIN q_1_2 fl_X3_302 dX3_make_10 ?_
    refine gr_icmp_le (tgt := 18) dX3_make_13 (by decide) h (fun _ h => ?_) (fun _ h => ?_)
    · refine gr_iconst dX3_make_16 gk_i_m1 ?_
      exact gq_retIM dX3_make_17 rfl h
    · refine gr_iload_n dX3_make_18 rfl rfl ?_
      refine gr_if_ge (tgt := 28) dX3_make_19 (by decide) h (fun _ h => ?_) (fun _ h => ?_)
      · refine gr_aload_n dX3_make_22 rfl rfl ?_
        refine gr_iconst dX3_make_23 gk_i_5 ?_
        obtain ⟨x2, hx2, h⟩ := gn_bd h
        refine gc_VI (c_X3_found hx2) my_X3_found mv_X3_found ob_0 ml_X3_99 rfl rfl ⟨Nat.le_of_ble_eq_true rfl, Nat.le_of_ble_eq_true rfl⟩ (Nat.le_of_ble_eq_true rfl) dX3_make_24 (fun fx2 => ?_)
        exact gq_retIM dX3_make_27 rfl h
      · refine gr_aload_n dX3_make_28 rfl rfl ?_
        refine gr_iload_n dX3_make_29 rfl rfl ?_
        refine gr_iload_n dX3_make_30 rfl rfl ?_
        refine gr_iload dX3_make_31 rfl ?_
        obtain ⟨x3, hx3, h⟩ := gn_bd h
        refine gc_VN0 (c_X2_spread_r hx3) my_X2_spread mv_X2_spread ob_1 ml_X3_218 rfl rfl ⟨Nat.le_of_ble_eq_true rfl, Nat.le_of_ble_eq_true rfl⟩ (Nat.le_of_ble_eq_true rfl) dX3_make_33 (fun fx3 => ?_)
        refine gr_iload_n dX3_make_36 rfl rfl ?_
        exact gq_retIM dX3_make_37 rfl h
def f_X3_make_t (n : Nat) (m : gn_M) (p1 : Int32) (p2 : Int32) (p3 : Int32) : Option (Int32 × gn_M) := (f_X2_numbers_t m p1).bind (fun x1 => (if x1 = 0 then some ((-1 : Int32), m) else (if (m.1 4 2) < p2 then some ((-1 : Int32), m) else (if p2 < 0 then (f_X3_found m (5 : Int32)).bind (fun x2 => some (x2.1, x2.2)) else (f_X2_spread_t n m p1 p2 p3).bind (fun x3 => some (p2, x3))))))
set_option maxRecDepth 100000 in
set_option maxHeartbeats 4000000 in
theorem c_X3_make_t {n : Nat} {m : gn_M} {p1 : Int32} {p2 : Int32} {p3 : Int32} {v : Int32 × gn_M} (h : f_X3_make_t n m p1 p2 p3 = some v) : gn_Cl yX3_make cX3_make 5 (some .int) 2 46 [.ref 0, .ref 4, .int p1, .int p2, .int p3] m (some (.int v.1)) v.2 := by
  rw [f_X3_make_t] at h
  refine gn_met (lv := [some (.ref 0), some (.ref 4), some (.int p1), some (.int p2), some (.int p3)]) pl_X3 rfl rfl (Nat.le_of_ble_eq_true rfl) ?_
  refine gr_aload_n dX3_make_0 rfl rfl ?_
  refine gr_iload_n dX3_make_1 rfl rfl ?_
  obtain ⟨x1, hx1, h⟩ := gn_bd h
  refine gc_VNI (c_X2_numbers_t hx1) my_X2_numbers mv_X2_numbers ob_4 ml_X3_95 rfl rfl ⟨Nat.le_of_ble_eq_true rfl, Nat.le_of_ble_eq_true rfl⟩ (Nat.le_of_ble_eq_true rfl) dX3_make_2 (fun fx1 => ?_)
  refine gr_if_eq (tgt := 16) dX3_make_5 (by decide) h (fun _ h => ?_) (fun _ h => ?_)
  · refine gr_iconst dX3_make_16 gk_i_m1 ?_
    exact gq_retIM dX3_make_17 rfl h
  · refine gr_iload_n dX3_make_8 rfl rfl ?_
    refine gr_aload_n dX3_make_9 rfl rfl ?_
    refine gr_getIN q_4_2 fl_X3_302 dX3_make_10 ?_
    refine gr_icmp_le (tgt := 18) dX3_make_13 (by decide) h (fun _ h => ?_) (fun _ h => ?_)
    · refine gr_iconst dX3_make_16 gk_i_m1 ?_
      exact gq_retIM dX3_make_17 rfl h
    · refine gr_iload_n dX3_make_18 rfl rfl ?_
      refine gr_if_ge (tgt := 28) dX3_make_19 (by decide) h (fun _ h => ?_) (fun _ h => ?_)
      · refine gr_aload_n dX3_make_22 rfl rfl ?_
        refine gr_iconst dX3_make_23 gk_i_5 ?_
        obtain ⟨x2, hx2, h⟩ := gn_bd h
        refine gc_VI (c_X3_found hx2) my_X3_found mv_X3_found ob_0 ml_X3_99 rfl rfl ⟨Nat.le_of_ble_eq_true rfl, Nat.le_of_ble_eq_true rfl⟩ (Nat.le_of_ble_eq_true rfl) dX3_make_24 (fun fx2 => ?_)
        exact gq_retIM dX3_make_27 rfl h
      · refine gr_aload_n dX3_make_28 rfl rfl ?_
        refine gr_iload_n dX3_make_29 rfl rfl ?_
        refine gr_iload_n dX3_make_30 rfl rfl ?_
        refine gr_iload dX3_make_31 rfl ?_
        obtain ⟨x3, hx3, h⟩ := gn_bd h
        refine gc_VN0 (c_X2_spread_t hx3) my_X2_spread mv_X2_spread ob_4 ml_X3_218 rfl rfl ⟨Nat.le_of_ble_eq_true rfl, Nat.le_of_ble_eq_true rfl⟩ (Nat.le_of_ble_eq_true rfl) dX3_make_33 (fun fx3 => ?_)
        refine gr_iload_n dX3_make_36 rfl rfl ?_
        exact gq_retIM dX3_make_37 rfl h
def f_X3_row (n : Nat) (m : gn_M) (p0 : Int32) (p1 : Int32) : Option (Int32 × gn_M) := (f_X3_make_r n m p0 p1 (0 : Int32)).bind (fun x1 => some (x1.1, x1.2))
set_option maxRecDepth 100000 in
set_option maxHeartbeats 4000000 in
theorem c_X3_row {n : Nat} {m : gn_M} {p0 : Int32} {p1 : Int32} {v : Int32 × gn_M} (h : f_X3_row n m p0 p1 = some v) : gn_Cl yX3_row cX3_row 3 (some .int) 3 70 [.ref 0, .int p0, .int p1] m (some (.int v.1)) v.2 := by
  rw [f_X3_row] at h
  refine gn_met (lv := [some (.ref 0), some (.int p0), some (.int p1)]) pl_X3 rfl rfl (Nat.le_of_ble_eq_true rfl) ?_
  refine gr_aload_n dX3_row_0 rfl rfl ?_
  refine gr_aload_n dX3_row_1 rfl rfl ?_
  refine gr_getR q_0_0 fl_X3_14 dX3_row_2 ?_
  refine gr_iload_n dX3_row_5 rfl rfl ?_
  refine gr_iload_n dX3_row_6 rfl rfl ?_
  refine gr_iconst dX3_row_7 gk_i_0 ?_
  obtain ⟨x1, hx1, h⟩ := gn_bd h
  refine gc_VI (c_X3_make_r hx1) my_X3_make mv_X3_make ob_0 ml_X3_73 rfl rfl ⟨Nat.le_of_ble_eq_true rfl, Nat.le_of_ble_eq_true rfl⟩ (Nat.le_of_ble_eq_true rfl) dX3_row_8 (fun fx1 => ?_)
  exact gq_retIM dX3_row_11 rfl h
def f_X2_missing_r (m : gn_M) (p0 : Int32) : Option (Int32) := gn_rd m 3 6 p0 (fun x1 => (if x1 < 0 then some (1 : Int32) else some (0 : Int32)))
set_option maxRecDepth 100000 in
set_option maxHeartbeats 4000000 in
theorem c_X2_missing_r {m : gn_M} {p0 : Int32} {v : Int32} (h : f_X2_missing_r m p0 = some v) : gn_Cl yX2_missing cX2_missing 2 (some .boolean) 0 0 [.ref 1, .int p0] m (some (.int v)) m := by
  rw [f_X2_missing_r] at h
  refine gn_met (lv := [some (.ref 1), some (.int p0)]) pl_X2 rfl rfl (Nat.le_of_ble_eq_true rfl) ?_
  refine gr_aload_n dX2_missing_0 rfl rfl ?_
  refine gr_getR q_1_1 fl_X2_14 dX2_missing_1 ?_
  refine gr_iload_n dX2_missing_4 rfl rfl ?_
  refine gq_iaload s_3 dX2_missing_5 h (fun x1 h => ?_)
  refine gr_if_ge (tgt := 13) dX2_missing_6 (by decide) h (fun _ h => ?_) (fun _ h => ?_)
  · refine gr_iconst dX2_missing_9 gk_i_1 ?_
    refine gr_goto (tgt := 14) dX2_missing_10 (by decide) ?_
    exact gq_retI dX2_missing_14 rfl h
  · refine gr_iconst dX2_missing_13 gk_i_0 ?_
    exact gq_retI dX2_missing_14 rfl h
def f_X2_missing_t (m : gn_M) (p0 : Int32) : Option (Int32) := gn_rd m 6 4 p0 (fun x1 => (if x1 < 0 then some (1 : Int32) else some (0 : Int32)))
set_option maxRecDepth 100000 in
set_option maxHeartbeats 4000000 in
theorem c_X2_missing_t {m : gn_M} {p0 : Int32} {v : Int32} (h : f_X2_missing_t m p0 = some v) : gn_Cl yX2_missing cX2_missing 2 (some .boolean) 0 0 [.ref 4, .int p0] m (some (.int v)) m := by
  rw [f_X2_missing_t] at h
  refine gn_met (lv := [some (.ref 4), some (.int p0)]) pl_X2 rfl rfl (Nat.le_of_ble_eq_true rfl) ?_
  refine gr_aload_n dX2_missing_0 rfl rfl ?_
  refine gr_getR q_4_1 fl_X2_14 dX2_missing_1 ?_
  refine gr_iload_n dX2_missing_4 rfl rfl ?_
  refine gq_iaload s_6 dX2_missing_5 h (fun x1 h => ?_)
  refine gr_if_ge (tgt := 13) dX2_missing_6 (by decide) h (fun _ h => ?_) (fun _ h => ?_)
  · refine gr_iconst dX2_missing_9 gk_i_1 ?_
    refine gr_goto (tgt := 14) dX2_missing_10 (by decide) ?_
    exact gq_retI dX2_missing_14 rfl h
  · refine gr_iconst dX2_missing_13 gk_i_0 ?_
    exact gq_retI dX2_missing_14 rfl h
def f_X3_refusalOfStrip_r (m : gn_M) (p1 : Int32) : Option (Int32 × gn_M) := (f_X2_numbers_r m p1).bind (fun x1 => (if x1 = 0 then some ((-1 : Int32), m) else (f_X2_missing_r m p1).bind (fun x2 => (if x2 = 0 then some ((0 : Int32), m) else (f_X3_found m (1 : Int32)).bind (fun x3 => some (x3.1, x3.2))))))
set_option maxRecDepth 100000 in
set_option maxHeartbeats 4000000 in
theorem c_X3_refusalOfStrip_r {m : gn_M} {p1 : Int32} {v : Int32 × gn_M} (h : f_X3_refusalOfStrip_r m p1 = some v) : gn_Cl yX3_refusalOfStrip cX3_refusalOfStrip 3 (some .int) 1 21 [.ref 0, .ref 1, .int p1] m (some (.int v.1)) v.2 := by
  rw [f_X3_refusalOfStrip_r] at h
  refine gn_met (lv := [some (.ref 0), some (.ref 1), some (.int p1)]) pl_X3 rfl rfl (Nat.le_of_ble_eq_true rfl) ?_
  refine gr_aload_n dX3_refusalOfStrip_0 rfl rfl ?_
  refine gr_iload_n dX3_refusalOfStrip_1 rfl rfl ?_
  obtain ⟨x1, hx1, h⟩ := gn_bd h
  refine gc_VNI (c_X2_numbers_r hx1) my_X2_numbers mv_X2_numbers ob_1 ml_X3_95 rfl rfl ⟨Nat.le_of_ble_eq_true rfl, Nat.le_of_ble_eq_true rfl⟩ (Nat.le_of_ble_eq_true rfl) dX3_refusalOfStrip_2 (fun fx1 => ?_)
  refine gr_if_ne (tgt := 10) dX3_refusalOfStrip_5 (by decide) h (fun _ h => ?_) (fun _ h => ?_)
  · refine gr_iconst dX3_refusalOfStrip_8 gk_i_m1 ?_
    exact gq_retIM dX3_refusalOfStrip_9 rfl h
  · refine gr_aload_n dX3_refusalOfStrip_10 rfl rfl ?_
    refine gr_iload_n dX3_refusalOfStrip_11 rfl rfl ?_
    obtain ⟨x2, hx2, h⟩ := gn_bd h
    refine gc_VNI (c_X2_missing_r hx2) my_X2_missing mv_X2_missing ob_1 ml_X3_102 rfl rfl ⟨Nat.le_of_ble_eq_true rfl, Nat.le_of_ble_eq_true rfl⟩ (Nat.le_of_ble_eq_true rfl) dX3_refusalOfStrip_12 (fun fx2 => ?_)
    refine gr_if_eq (tgt := 26) dX3_refusalOfStrip_15 (by decide) h (fun _ h => ?_) (fun _ h => ?_)
    · refine gr_iconst dX3_refusalOfStrip_26 gk_i_0 ?_
      exact gq_retIM dX3_refusalOfStrip_27 rfl h
    · refine gr_aload_n dX3_refusalOfStrip_18 rfl rfl ?_
      refine gr_iconst dX3_refusalOfStrip_19 gk_i_1 ?_
      obtain ⟨x3, hx3, h⟩ := gn_bd h
      refine gc_VI (c_X3_found hx3) my_X3_found mv_X3_found ob_0 ml_X3_99 rfl rfl ⟨Nat.le_of_ble_eq_true rfl, Nat.le_of_ble_eq_true rfl⟩ (Nat.le_of_ble_eq_true rfl) dX3_refusalOfStrip_20 (fun fx3 => ?_)
      refine gr_goto (tgt := 27) dX3_refusalOfStrip_23 (by decide) ?_
      exact gq_retIM dX3_refusalOfStrip_27 rfl h
def f_X3_refusalOfStrip_t (m : gn_M) (p1 : Int32) : Option (Int32 × gn_M) := (f_X2_numbers_t m p1).bind (fun x1 => (if x1 = 0 then some ((-1 : Int32), m) else (f_X2_missing_t m p1).bind (fun x2 => (if x2 = 0 then some ((0 : Int32), m) else (f_X3_found m (1 : Int32)).bind (fun x3 => some (x3.1, x3.2))))))
set_option maxRecDepth 100000 in
set_option maxHeartbeats 4000000 in
theorem c_X3_refusalOfStrip_t {m : gn_M} {p1 : Int32} {v : Int32 × gn_M} (h : f_X3_refusalOfStrip_t m p1 = some v) : gn_Cl yX3_refusalOfStrip cX3_refusalOfStrip 3 (some .int) 1 21 [.ref 0, .ref 4, .int p1] m (some (.int v.1)) v.2 := by
  rw [f_X3_refusalOfStrip_t] at h
  refine gn_met (lv := [some (.ref 0), some (.ref 4), some (.int p1)]) pl_X3 rfl rfl (Nat.le_of_ble_eq_true rfl) ?_
  refine gr_aload_n dX3_refusalOfStrip_0 rfl rfl ?_
  refine gr_iload_n dX3_refusalOfStrip_1 rfl rfl ?_
  obtain ⟨x1, hx1, h⟩ := gn_bd h
  refine gc_VNI (c_X2_numbers_t hx1) my_X2_numbers mv_X2_numbers ob_4 ml_X3_95 rfl rfl ⟨Nat.le_of_ble_eq_true rfl, Nat.le_of_ble_eq_true rfl⟩ (Nat.le_of_ble_eq_true rfl) dX3_refusalOfStrip_2 (fun fx1 => ?_)
  refine gr_if_ne (tgt := 10) dX3_refusalOfStrip_5 (by decide) h (fun _ h => ?_) (fun _ h => ?_)
  · refine gr_iconst dX3_refusalOfStrip_8 gk_i_m1 ?_
    exact gq_retIM dX3_refusalOfStrip_9 rfl h
  · refine gr_aload_n dX3_refusalOfStrip_10 rfl rfl ?_
    refine gr_iload_n dX3_refusalOfStrip_11 rfl rfl ?_
    obtain ⟨x2, hx2, h⟩ := gn_bd h
    refine gc_VNI (c_X2_missing_t hx2) my_X2_missing mv_X2_missing ob_4 ml_X3_102 rfl rfl ⟨Nat.le_of_ble_eq_true rfl, Nat.le_of_ble_eq_true rfl⟩ (Nat.le_of_ble_eq_true rfl) dX3_refusalOfStrip_12 (fun fx2 => ?_)
    refine gr_if_eq (tgt := 26) dX3_refusalOfStrip_15 (by decide) h (fun _ h => ?_) (fun _ h => ?_)
    · refine gr_iconst dX3_refusalOfStrip_26 gk_i_0 ?_
      exact gq_retIM dX3_refusalOfStrip_27 rfl h
    · refine gr_aload_n dX3_refusalOfStrip_18 rfl rfl ?_
      refine gr_iconst dX3_refusalOfStrip_19 gk_i_1 ?_
      obtain ⟨x3, hx3, h⟩ := gn_bd h
      refine gc_VI (c_X3_found hx3) my_X3_found mv_X3_found ob_0 ml_X3_99 rfl rfl ⟨Nat.le_of_ble_eq_true rfl, Nat.le_of_ble_eq_true rfl⟩ (Nat.le_of_ble_eq_true rfl) dX3_refusalOfStrip_20 (fun fx3 => ?_)
      refine gr_goto (tgt := 27) dX3_refusalOfStrip_23 (by decide) ?_
      exact gq_retIM dX3_refusalOfStrip_27 rfl h
def f_X2_reaches_r (m : gn_M) (p0 : Int32) (p1 : Int32) (p2 : Int32) : Option (Int32) := (if p1 < 0 then some (0 : Int32) else gn_rd m 3 6 p0 (fun x1 => (if x1 < p1 then some (0 : Int32) else gn_rd m 3 6 p0 (fun x2 => (if (x2 - p1) < p2 then some (0 : Int32) else some (1 : Int32))))))
set_option maxRecDepth 100000 in
set_option maxHeartbeats 4000000 in
theorem c_X2_reaches_r {m : gn_M} {p0 : Int32} {p1 : Int32} {p2 : Int32} {v : Int32} (h : f_X2_reaches_r m p0 p1 p2 = some v) : gn_Cl yX2_reaches cX2_reaches 4 (some .boolean) 0 0 [.ref 1, .int p0, .int p1, .int p2] m (some (.int v)) m := by
  rw [f_X2_reaches_r] at h
  refine gn_met (lv := [some (.ref 1), some (.int p0), some (.int p1), some (.int p2)]) pl_X2 rfl rfl (Nat.le_of_ble_eq_true rfl) ?_
  refine gr_iload_n dX2_reaches_0 rfl rfl ?_
  refine gr_if_lt (tgt := 30) dX2_reaches_1 (by decide) h (fun _ h => ?_) (fun _ h => ?_)
  · refine gr_iconst dX2_reaches_30 gk_i_0 ?_
    exact gq_retI dX2_reaches_31 rfl h
  · refine gr_iload_n dX2_reaches_4 rfl rfl ?_
    refine gr_aload_n dX2_reaches_5 rfl rfl ?_
    refine gr_getR q_1_1 fl_X2_14 dX2_reaches_6 ?_
    refine gr_iload_n dX2_reaches_9 rfl rfl ?_
    refine gq_iaload s_3 dX2_reaches_10 h (fun x1 h => ?_)
    refine gr_icmp_gt (tgt := 30) dX2_reaches_11 (by decide) h (fun _ h => ?_) (fun _ h => ?_)
    · refine gr_iconst dX2_reaches_30 gk_i_0 ?_
      exact gq_retI dX2_reaches_31 rfl h
    · refine gr_iload_n dX2_reaches_14 rfl rfl ?_
      refine gr_aload_n dX2_reaches_15 rfl rfl ?_
      refine gr_getR q_1_1 fl_X2_14 dX2_reaches_16 ?_
      refine gr_iload_n dX2_reaches_19 rfl rfl ?_
      refine gq_iaload s_3 dX2_reaches_20 h (fun x2 h => ?_)
      refine gr_iload_n dX2_reaches_21 rfl rfl ?_
      refine gr_isub dX2_reaches_22 ?_
      refine gr_icmp_gt (tgt := 30) dX2_reaches_23 (by decide) h (fun _ h => ?_) (fun _ h => ?_)
      · refine gr_iconst dX2_reaches_30 gk_i_0 ?_
        exact gq_retI dX2_reaches_31 rfl h
      · refine gr_iconst dX2_reaches_26 gk_i_1 ?_
        refine gr_goto (tgt := 31) dX2_reaches_27 (by decide) ?_
        exact gq_retI dX2_reaches_31 rfl h
def f_X2_reaches_t (m : gn_M) (p0 : Int32) (p1 : Int32) (p2 : Int32) : Option (Int32) := (if p1 < 0 then some (0 : Int32) else gn_rd m 6 4 p0 (fun x1 => (if x1 < p1 then some (0 : Int32) else gn_rd m 6 4 p0 (fun x2 => (if (x2 - p1) < p2 then some (0 : Int32) else some (1 : Int32))))))
set_option maxRecDepth 100000 in
set_option maxHeartbeats 4000000 in
theorem c_X2_reaches_t {m : gn_M} {p0 : Int32} {p1 : Int32} {p2 : Int32} {v : Int32} (h : f_X2_reaches_t m p0 p1 p2 = some v) : gn_Cl yX2_reaches cX2_reaches 4 (some .boolean) 0 0 [.ref 4, .int p0, .int p1, .int p2] m (some (.int v)) m := by
  rw [f_X2_reaches_t] at h
  refine gn_met (lv := [some (.ref 4), some (.int p0), some (.int p1), some (.int p2)]) pl_X2 rfl rfl (Nat.le_of_ble_eq_true rfl) ?_
  refine gr_iload_n dX2_reaches_0 rfl rfl ?_
  refine gr_if_lt (tgt := 30) dX2_reaches_1 (by decide) h (fun _ h => ?_) (fun _ h => ?_)
  · refine gr_iconst dX2_reaches_30 gk_i_0 ?_
    exact gq_retI dX2_reaches_31 rfl h
  · refine gr_iload_n dX2_reaches_4 rfl rfl ?_
    refine gr_aload_n dX2_reaches_5 rfl rfl ?_
    refine gr_getR q_4_1 fl_X2_14 dX2_reaches_6 ?_
    refine gr_iload_n dX2_reaches_9 rfl rfl ?_
    refine gq_iaload s_6 dX2_reaches_10 h (fun x1 h => ?_)
    refine gr_icmp_gt (tgt := 30) dX2_reaches_11 (by decide) h (fun _ h => ?_) (fun _ h => ?_)
    · refine gr_iconst dX2_reaches_30 gk_i_0 ?_
      exact gq_retI dX2_reaches_31 rfl h
    · refine gr_iload_n dX2_reaches_14 rfl rfl ?_
      refine gr_aload_n dX2_reaches_15 rfl rfl ?_
      refine gr_getR q_4_1 fl_X2_14 dX2_reaches_16 ?_
      refine gr_iload_n dX2_reaches_19 rfl rfl ?_
      refine gq_iaload s_6 dX2_reaches_20 h (fun x2 h => ?_)
      refine gr_iload_n dX2_reaches_21 rfl rfl ?_
      refine gr_isub dX2_reaches_22 ?_
      refine gr_icmp_gt (tgt := 30) dX2_reaches_23 (by decide) h (fun _ h => ?_) (fun _ h => ?_)
      · refine gr_iconst dX2_reaches_30 gk_i_0 ?_
        exact gq_retI dX2_reaches_31 rfl h
      · refine gr_iconst dX2_reaches_26 gk_i_1 ?_
        refine gr_goto (tgt := 31) dX2_reaches_27 (by decide) ?_
        exact gq_retI dX2_reaches_31 rfl h
def f_X3_refusalOfPlace_r (m : gn_M) (p1 : Int32) (p2 : Int32) : Option (Int32 × gn_M) := (f_X3_refusalOfStrip_r m p1).bind (fun x1 => (if x1.1 = 0 then (f_X2_reaches_r x1.2 p1 p2 (1 : Int32)).bind (fun x2 => (if x2 = 0 then (f_X3_found x1.2 (2 : Int32)).bind (fun x3 => some (x3.1, x3.2)) else some ((0 : Int32), x1.2))) else some (x1.1, x1.2)))
set_option maxRecDepth 100000 in
set_option maxHeartbeats 4000000 in
theorem c_X3_refusalOfPlace_r {m : gn_M} {p1 : Int32} {p2 : Int32} {v : Int32 × gn_M} (h : f_X3_refusalOfPlace_r m p1 p2 = some v) : gn_Cl yX3_refusalOfPlace cX3_refusalOfPlace 5 (some .int) 2 43 [.ref 0, .ref 1, .int p1, .int p2] m (some (.int v.1)) v.2 := by
  rw [f_X3_refusalOfPlace_r] at h
  refine gn_met (lv := [some (.ref 0), some (.ref 1), some (.int p1), some (.int p2), none]) pl_X3 rfl rfl (Nat.le_of_ble_eq_true rfl) ?_
  refine gr_aload_n dX3_refusalOfPlace_0 rfl rfl ?_
  refine gr_aload_n dX3_refusalOfPlace_1 rfl rfl ?_
  refine gr_iload_n dX3_refusalOfPlace_2 rfl rfl ?_
  obtain ⟨x1, hx1, h⟩ := gn_bd h
  refine gc_VI (c_X3_refusalOfStrip_r hx1) my_X3_refusalOfStrip mv_X3_refusalOfStrip ob_0 ml_X3_88 rfl rfl ⟨Nat.le_of_ble_eq_true rfl, Nat.le_of_ble_eq_true rfl⟩ (Nat.le_of_ble_eq_true rfl) dX3_refusalOfPlace_3 (fun fx1 => ?_)
  refine gr_istore (lv' := [some (.ref 0), some (.ref 1), some (.int p1), some (.int p2), some (.int x1.1)]) dX3_refusalOfPlace_6 (by decide) rfl ?_
  refine gr_iload dX3_refusalOfPlace_8 rfl ?_
  refine gr_if_eq (tgt := 16) dX3_refusalOfPlace_10 (by decide) h (fun _ h => ?_) (fun _ h => ?_)
  · refine gr_aload_n dX3_refusalOfPlace_16 rfl rfl ?_
    refine gr_iload_n dX3_refusalOfPlace_17 rfl rfl ?_
    refine gr_iload_n dX3_refusalOfPlace_18 rfl rfl ?_
    refine gr_iconst dX3_refusalOfPlace_19 gk_i_1 ?_
    obtain ⟨x2, hx2, h⟩ := gn_bd h
    refine gc_VNI (c_X2_reaches_r hx2) my_X2_reaches mv_X2_reaches ob_1 ml_X3_105 rfl rfl ⟨Nat.le_of_ble_eq_true rfl, Nat.le_of_ble_eq_true rfl⟩ (Nat.le_of_ble_eq_true rfl) dX3_refusalOfPlace_20 (fun fx2 => ?_)
    refine gr_if_eq (tgt := 30) dX3_refusalOfPlace_23 (by decide) h (fun _ h => ?_) (fun _ h => ?_)
    · refine gr_aload_n dX3_refusalOfPlace_30 rfl rfl ?_
      refine gr_iconst dX3_refusalOfPlace_31 gk_i_2 ?_
      obtain ⟨x3, hx3, h⟩ := gn_bd h
      refine gc_VI (c_X3_found hx3) my_X3_found mv_X3_found ob_0 ml_X3_99 rfl rfl ⟨Nat.le_of_ble_eq_true rfl, Nat.le_of_ble_eq_true rfl⟩ (Nat.le_of_ble_eq_true rfl) dX3_refusalOfPlace_32 (fun fx3 => ?_)
      exact gq_retIM dX3_refusalOfPlace_35 rfl h
    · refine gr_iconst dX3_refusalOfPlace_26 gk_i_0 ?_
      refine gr_goto (tgt := 35) dX3_refusalOfPlace_27 (by decide) ?_
      exact gq_retIM dX3_refusalOfPlace_35 rfl h
  · refine gr_iload dX3_refusalOfPlace_13 rfl ?_
    exact gq_retIM dX3_refusalOfPlace_15 rfl h
def f_X3_refusalOfPlace_t (m : gn_M) (p1 : Int32) (p2 : Int32) : Option (Int32 × gn_M) := (f_X3_refusalOfStrip_t m p1).bind (fun x1 => (if x1.1 = 0 then (f_X2_reaches_t x1.2 p1 p2 (1 : Int32)).bind (fun x2 => (if x2 = 0 then (f_X3_found x1.2 (2 : Int32)).bind (fun x3 => some (x3.1, x3.2)) else some ((0 : Int32), x1.2))) else some (x1.1, x1.2)))
set_option maxRecDepth 100000 in
set_option maxHeartbeats 4000000 in
theorem c_X3_refusalOfPlace_t {m : gn_M} {p1 : Int32} {p2 : Int32} {v : Int32 × gn_M} (h : f_X3_refusalOfPlace_t m p1 p2 = some v) : gn_Cl yX3_refusalOfPlace cX3_refusalOfPlace 5 (some .int) 2 43 [.ref 0, .ref 4, .int p1, .int p2] m (some (.int v.1)) v.2 := by
  rw [f_X3_refusalOfPlace_t] at h
  refine gn_met (lv := [some (.ref 0), some (.ref 4), some (.int p1), some (.int p2), none]) pl_X3 rfl rfl (Nat.le_of_ble_eq_true rfl) ?_
  refine gr_aload_n dX3_refusalOfPlace_0 rfl rfl ?_
  refine gr_aload_n dX3_refusalOfPlace_1 rfl rfl ?_
  refine gr_iload_n dX3_refusalOfPlace_2 rfl rfl ?_
  obtain ⟨x1, hx1, h⟩ := gn_bd h
  refine gc_VI (c_X3_refusalOfStrip_t hx1) my_X3_refusalOfStrip mv_X3_refusalOfStrip ob_0 ml_X3_88 rfl rfl ⟨Nat.le_of_ble_eq_true rfl, Nat.le_of_ble_eq_true rfl⟩ (Nat.le_of_ble_eq_true rfl) dX3_refusalOfPlace_3 (fun fx1 => ?_)
  refine gr_istore (lv' := [some (.ref 0), some (.ref 4), some (.int p1), some (.int p2), some (.int x1.1)]) dX3_refusalOfPlace_6 (by decide) rfl ?_
  refine gr_iload dX3_refusalOfPlace_8 rfl ?_
  refine gr_if_eq (tgt := 16) dX3_refusalOfPlace_10 (by decide) h (fun _ h => ?_) (fun _ h => ?_)
  · refine gr_aload_n dX3_refusalOfPlace_16 rfl rfl ?_
    refine gr_iload_n dX3_refusalOfPlace_17 rfl rfl ?_
    refine gr_iload_n dX3_refusalOfPlace_18 rfl rfl ?_
    refine gr_iconst dX3_refusalOfPlace_19 gk_i_1 ?_
    obtain ⟨x2, hx2, h⟩ := gn_bd h
    refine gc_VNI (c_X2_reaches_t hx2) my_X2_reaches mv_X2_reaches ob_4 ml_X3_105 rfl rfl ⟨Nat.le_of_ble_eq_true rfl, Nat.le_of_ble_eq_true rfl⟩ (Nat.le_of_ble_eq_true rfl) dX3_refusalOfPlace_20 (fun fx2 => ?_)
    refine gr_if_eq (tgt := 30) dX3_refusalOfPlace_23 (by decide) h (fun _ h => ?_) (fun _ h => ?_)
    · refine gr_aload_n dX3_refusalOfPlace_30 rfl rfl ?_
      refine gr_iconst dX3_refusalOfPlace_31 gk_i_2 ?_
      obtain ⟨x3, hx3, h⟩ := gn_bd h
      refine gc_VI (c_X3_found hx3) my_X3_found mv_X3_found ob_0 ml_X3_99 rfl rfl ⟨Nat.le_of_ble_eq_true rfl, Nat.le_of_ble_eq_true rfl⟩ (Nat.le_of_ble_eq_true rfl) dX3_refusalOfPlace_32 (fun fx3 => ?_)
      exact gq_retIM dX3_refusalOfPlace_35 rfl h
    · refine gr_iconst dX3_refusalOfPlace_26 gk_i_0 ?_
      refine gr_goto (tgt := 35) dX3_refusalOfPlace_27 (by decide) ?_
      exact gq_retIM dX3_refusalOfPlace_35 rfl h
  · refine gr_iload dX3_refusalOfPlace_13 rfl ?_
    exact gq_retIM dX3_refusalOfPlace_15 rfl h
def f_X3_toldByAsked (m : gn_M) (p0 : Int32) : Option (Int32 × gn_M) := gn_pf m 0 10 p0 (fun m1 => some ((1 : Int32), m1))
set_option maxRecDepth 100000 in
set_option maxHeartbeats 4000000 in
theorem c_X3_toldByAsked {m : gn_M} {p0 : Int32} {v : Int32 × gn_M} (h : f_X3_toldByAsked m p0 = some v) : gn_Cl yX3_toldByAsked cX3_toldByAsked 2 (some .int) 0 0 [.ref 0, .int p0] m (some (.int v.1)) v.2 := by
  rw [f_X3_toldByAsked] at h
  refine gn_met (lv := [some (.ref 0), some (.int p0)]) pl_X3 rfl rfl (Nat.le_of_ble_eq_true rfl) ?_
  refine gr_aload_n dX3_toldByAsked_0 rfl rfl ?_
  refine gr_iload_n dX3_toldByAsked_1 rfl rfl ?_
  refine gq_putI q_0_10 rfl rfl fl_X3_57 dX3_toldByAsked_2 h (fun m1 h => ?_)
  refine gr_iconst dX3_toldByAsked_5 gk_i_1 ?_
  exact gq_retIM dX3_toldByAsked_6 rfl h
def f_X3_lay (m : gn_M) (p0 : Int32) (p1 : Int32) (p2 : Int32) : Option (Int32 × gn_M) := (f_X3_refusalOfPlace_r m p0 p1).bind (fun x1 => (if x1.1 = 0 then gn_ra 10 6 p0 (fun k2 => gn_rd x1.2 k2 40 p1 (fun x3 => gn_ra 10 6 p0 (fun k4 => gn_wr x1.2 k4 40 p1 p2 (fun m5 => (f_X3_toldByAsked m5 x3).bind (fun x6 => some (x6.1, x6.2)))))) else some (x1.1, x1.2)))
set_option maxRecDepth 100000 in
set_option maxHeartbeats 4000000 in
theorem c_X3_lay {m : gn_M} {p0 : Int32} {p1 : Int32} {p2 : Int32} {v : Int32 × gn_M} (h : f_X3_lay m p0 p1 p2 = some v) : gn_Cl yX3_lay cX3_lay 6 (some .int) 3 67 [.ref 0, .int p0, .int p1, .int p2] m (some (.int v.1)) v.2 := by
  rw [f_X3_lay] at h
  refine gn_met (lv := [some (.ref 0), some (.int p0), some (.int p1), some (.int p2), none, none]) pl_X3 rfl rfl (Nat.le_of_ble_eq_true rfl) ?_
  refine gr_aload_n dX3_lay_0 rfl rfl ?_
  refine gr_aload_n dX3_lay_1 rfl rfl ?_
  refine gr_getR q_0_0 fl_X3_14 dX3_lay_2 ?_
  refine gr_iload_n dX3_lay_5 rfl rfl ?_
  refine gr_iload_n dX3_lay_6 rfl rfl ?_
  obtain ⟨x1, hx1, h⟩ := gn_bd h
  refine gc_VI (c_X3_refusalOfPlace_r hx1) my_X3_refusalOfPlace mv_X3_refusalOfPlace ob_0 ml_X3_77 rfl rfl ⟨Nat.le_of_ble_eq_true rfl, Nat.le_of_ble_eq_true rfl⟩ (Nat.le_of_ble_eq_true rfl) dX3_lay_7 (fun fx1 => ?_)
  refine gr_istore (lv' := [some (.ref 0), some (.int p0), some (.int p1), some (.int p2), some (.int x1.1), none]) dX3_lay_10 (by decide) rfl ?_
  refine gr_iload dX3_lay_12 rfl ?_
  refine gr_if_eq (tgt := 20) dX3_lay_14 (by decide) h (fun _ h => ?_) (fun _ h => ?_)
  · refine gr_aload_n dX3_lay_20 rfl rfl ?_
    refine gr_getR q_0_0 fl_X3_14 dX3_lay_21 ?_
    refine gr_getRN q_1_0 fl_X3_81 dX3_lay_24 ?_
    refine gr_iload_n dX3_lay_27 rfl rfl ?_
    refine gq_aaload ra_2 dX3_lay_28 h (fun k2 hk2 h => ?_)
    refine gr_iload_n dX3_lay_29 rfl rfl ?_
    refine gq_iaload hk2 dX3_lay_30 h (fun x3 h => ?_)
    refine gr_istore (lv' := [some (.ref 0), some (.int p0), some (.int p1), some (.int p2), some (.int x1.1), some (.int x3)]) dX3_lay_31 (by decide) rfl ?_
    refine gr_aload_n dX3_lay_33 rfl rfl ?_
    refine gr_getR q_0_0 fl_X3_14 dX3_lay_34 ?_
    refine gr_getRN q_1_0 fl_X3_81 dX3_lay_37 ?_
    refine gr_iload_n dX3_lay_40 rfl rfl ?_
    refine gq_aaload ra_2 dX3_lay_41 h (fun k4 hk4 h => ?_)
    refine gr_iload_n dX3_lay_42 rfl rfl ?_
    refine gr_iload_n dX3_lay_43 rfl rfl ?_
    refine gq_iastore hk4 dX3_lay_44 h (fun m5 h => ?_)
    refine gr_aload_n dX3_lay_45 rfl rfl ?_
    refine gr_iload dX3_lay_46 rfl ?_
    obtain ⟨x6, hx6, h⟩ := gn_bd h
    refine gc_VI (c_X3_toldByAsked hx6) my_X3_toldByAsked mv_X3_toldByAsked ob_0 ml_X3_84 rfl rfl ⟨Nat.le_of_ble_eq_true rfl, Nat.le_of_ble_eq_true rfl⟩ (Nat.le_of_ble_eq_true rfl) dX3_lay_48 (fun fx6 => ?_)
    exact gq_retIM dX3_lay_51 rfl h
  · refine gr_iload dX3_lay_17 rfl ?_
    exact gq_retIM dX3_lay_19 rfl h
def f_X3_at (m : gn_M) (p0 : Int32) (p1 : Int32) : Option (Int32 × gn_M) := (f_X3_refusalOfPlace_r m p0 p1).bind (fun x1 => (if x1.1 = 0 then gn_ra 10 6 p0 (fun k2 => gn_rd x1.2 k2 40 p1 (fun x3 => (f_X3_toldByAsked x1.2 x3).bind (fun x4 => some (x4.1, x4.2)))) else some (x1.1, x1.2)))
set_option maxRecDepth 100000 in
set_option maxHeartbeats 4000000 in
theorem c_X3_at {m : gn_M} {p0 : Int32} {p1 : Int32} {v : Int32 × gn_M} (h : f_X3_at m p0 p1 = some v) : gn_Cl yX3_at cX3_at 4 (some .int) 3 67 [.ref 0, .int p0, .int p1] m (some (.int v.1)) v.2 := by
  rw [f_X3_at] at h
  refine gn_met (lv := [some (.ref 0), some (.int p0), some (.int p1), none]) pl_X3 rfl rfl (Nat.le_of_ble_eq_true rfl) ?_
  refine gr_aload_n dX3_at_0 rfl rfl ?_
  refine gr_aload_n dX3_at_1 rfl rfl ?_
  refine gr_getR q_0_0 fl_X3_14 dX3_at_2 ?_
  refine gr_iload_n dX3_at_5 rfl rfl ?_
  refine gr_iload_n dX3_at_6 rfl rfl ?_
  obtain ⟨x1, hx1, h⟩ := gn_bd h
  refine gc_VI (c_X3_refusalOfPlace_r hx1) my_X3_refusalOfPlace mv_X3_refusalOfPlace ob_0 ml_X3_77 rfl rfl ⟨Nat.le_of_ble_eq_true rfl, Nat.le_of_ble_eq_true rfl⟩ (Nat.le_of_ble_eq_true rfl) dX3_at_7 (fun fx1 => ?_)
  refine gr_istore_n (lv' := [some (.ref 0), some (.int p0), some (.int p1), some (.int x1.1)]) dX3_at_10 rfl (by decide) rfl ?_
  refine gr_iload_n dX3_at_11 rfl rfl ?_
  refine gr_if_eq (tgt := 19) dX3_at_12 (by decide) h (fun _ h => ?_) (fun _ h => ?_)
  · refine gr_aload_n dX3_at_19 rfl rfl ?_
    refine gr_aload_n dX3_at_20 rfl rfl ?_
    refine gr_getR q_0_0 fl_X3_14 dX3_at_21 ?_
    refine gr_getRN q_1_0 fl_X3_81 dX3_at_24 ?_
    refine gr_iload_n dX3_at_27 rfl rfl ?_
    refine gq_aaload ra_2 dX3_at_28 h (fun k2 hk2 h => ?_)
    refine gr_iload_n dX3_at_29 rfl rfl ?_
    refine gq_iaload hk2 dX3_at_30 h (fun x3 h => ?_)
    obtain ⟨x4, hx4, h⟩ := gn_bd h
    refine gc_VI (c_X3_toldByAsked hx4) my_X3_toldByAsked mv_X3_toldByAsked ob_0 ml_X3_84 rfl rfl ⟨Nat.le_of_ble_eq_true rfl, Nat.le_of_ble_eq_true rfl⟩ (Nat.le_of_ble_eq_true rfl) dX3_at_31 (fun fx4 => ?_)
    exact gq_retIM dX3_at_34 rfl h
  · refine gr_iload_n dX3_at_15 rfl rfl ?_
    refine gr_goto (tgt := 34) dX3_at_16 (by decide) ?_
    exact gq_retIM dX3_at_34 rfl h
def f_X3_tear (m : gn_M) (p0 : Int32) : Option (Int32 × gn_M) := (f_X3_refusalOfStrip_r m p0).bind (fun x1 => (if x1.1 = 0 then gn_wr x1.2 3 6 p0 (-1 : Int32) (fun m2 => some ((1 : Int32), m2)) else some (x1.1, x1.2)))
set_option maxRecDepth 100000 in
set_option maxHeartbeats 4000000 in
theorem c_X3_tear {m : gn_M} {p0 : Int32} {v : Int32 × gn_M} (h : f_X3_tear m p0 = some v) : gn_Cl yX3_tear cX3_tear 3 (some .int) 2 43 [.ref 0, .int p0] m (some (.int v.1)) v.2 := by
  rw [f_X3_tear] at h
  refine gn_met (lv := [some (.ref 0), some (.int p0), none]) pl_X3 rfl rfl (Nat.le_of_ble_eq_true rfl) ?_
  refine gr_aload_n dX3_tear_0 rfl rfl ?_
  refine gr_aload_n dX3_tear_1 rfl rfl ?_
  refine gr_getR q_0_0 fl_X3_14 dX3_tear_2 ?_
  refine gr_iload_n dX3_tear_5 rfl rfl ?_
  obtain ⟨x1, hx1, h⟩ := gn_bd h
  refine gc_VI (c_X3_refusalOfStrip_r hx1) my_X3_refusalOfStrip mv_X3_refusalOfStrip ob_0 ml_X3_88 rfl rfl ⟨Nat.le_of_ble_eq_true rfl, Nat.le_of_ble_eq_true rfl⟩ (Nat.le_of_ble_eq_true rfl) dX3_tear_6 (fun fx1 => ?_)
  refine gr_istore_n (lv' := [some (.ref 0), some (.int p0), some (.int x1.1)]) dX3_tear_9 rfl (by decide) rfl ?_
  refine gr_iload_n dX3_tear_10 rfl rfl ?_
  refine gr_if_eq (tgt := 16) dX3_tear_11 (by decide) h (fun _ h => ?_) (fun _ h => ?_)
  · refine gr_aload_n dX3_tear_16 rfl rfl ?_
    refine gr_getR q_0_0 fl_X3_14 dX3_tear_17 ?_
    refine gr_getRN q_1_1 fl_X3_92 dX3_tear_20 ?_
    refine gr_iload_n dX3_tear_23 rfl rfl ?_
    refine gr_iconst dX3_tear_24 gk_i_m1 ?_
    refine gq_iastore s_3 dX3_tear_25 h (fun m2 h => ?_)
    refine gr_iconst dX3_tear_26 gk_i_1 ?_
    exact gq_retIM dX3_tear_27 rfl h
  · refine gr_iload_n dX3_tear_14 rfl rfl ?_
    exact gq_retIM dX3_tear_15 rfl h
def f_X3_copy (m : gn_M) (p0 : Int32) (p1 : Int32) (p2 : Int32) (p3 : Int32) (p4 : Int32) : Option (Int32 × gn_M) := (f_X2_numbers_r m p0).bind (fun x1 => (if x1 = 0 then some ((-1 : Int32), m) else (f_X2_numbers_r m p2).bind (fun x2 => (if x2 = 0 then some ((-1 : Int32), m) else (if p4 < 0 then (f_X3_found m (5 : Int32)).bind (fun x3 => some (x3.1, x3.2)) else (f_X2_missing_r m p0).bind (fun x4 => (if x4 = 0 then (f_X2_missing_r m p2).bind (fun x5 => (if x5 = 0 then (f_X2_reaches_r m p0 p1 p4).bind (fun x6 => (if x6 = 0 then (f_X3_found m (2 : Int32)).bind (fun x7 => some (x7.1, x7.2)) else (f_X2_reaches_r m p2 p3 p4).bind (fun x8 => (if x8 = 0 then (f_X3_found m (2 : Int32)).bind (fun x9 => some (x9.1, x9.2)) else gn_ra 10 6 p0 (fun k10 => gn_ra 10 6 p2 (fun k11 => gn_ac m k10 40 p1 k11 40 p3 p4 (fun m12 => some ((1 : Int32), m12)))))))) else (f_X3_found m (1 : Int32)).bind (fun x13 => some (x13.1, x13.2)))) else (f_X3_found m (1 : Int32)).bind (fun x14 => some (x14.1, x14.2)))))))))
set_option maxRecDepth 100000 in
set_option maxHeartbeats 4000000 in
theorem c_X3_copy {m : gn_M} {p0 : Int32} {p1 : Int32} {p2 : Int32} {p3 : Int32} {p4 : Int32} {v : Int32 × gn_M} (h : f_X3_copy m p0 p1 p2 p3 p4 = some v) : gn_Cl yX3_copy cX3_copy 6 (some .int) 1 26 [.ref 0, .int p0, .int p1, .int p2, .int p3, .int p4] m (some (.int v.1)) v.2 := by
  rw [f_X3_copy] at h
  refine gn_met (lv := [some (.ref 0), some (.int p0), some (.int p1), some (.int p2), some (.int p3), some (.int p4)]) pl_X3 rfl rfl (Nat.le_of_ble_eq_true rfl) ?_
  refine gr_aload_n dX3_copy_0 rfl rfl ?_
  refine gr_getR q_0_0 fl_X3_14 dX3_copy_1 ?_
  refine gr_iload_n dX3_copy_4 rfl rfl ?_
  obtain ⟨x1, hx1, h⟩ := gn_bd h
  refine gc_VNI (c_X2_numbers_r hx1) my_X2_numbers mv_X2_numbers ob_1 ml_X3_95 rfl rfl ⟨Nat.le_of_ble_eq_true rfl, Nat.le_of_ble_eq_true rfl⟩ (Nat.le_of_ble_eq_true rfl) dX3_copy_5 (fun fx1 => ?_)
  refine gr_if_eq (tgt := 22) dX3_copy_8 (by decide) h (fun _ h => ?_) (fun _ h => ?_)
  · refine gr_iconst dX3_copy_22 gk_i_m1 ?_
    exact gq_retIM dX3_copy_23 rfl h
  · refine gr_aload_n dX3_copy_11 rfl rfl ?_
    refine gr_getR q_0_0 fl_X3_14 dX3_copy_12 ?_
    refine gr_iload_n dX3_copy_15 rfl rfl ?_
    obtain ⟨x2, hx2, h⟩ := gn_bd h
    refine gc_VNI (c_X2_numbers_r hx2) my_X2_numbers mv_X2_numbers ob_1 ml_X3_95 rfl rfl ⟨Nat.le_of_ble_eq_true rfl, Nat.le_of_ble_eq_true rfl⟩ (Nat.le_of_ble_eq_true rfl) dX3_copy_16 (fun fx2 => ?_)
    refine gr_if_ne (tgt := 24) dX3_copy_19 (by decide) h (fun _ h => ?_) (fun _ h => ?_)
    · refine gr_iconst dX3_copy_22 gk_i_m1 ?_
      exact gq_retIM dX3_copy_23 rfl h
    · refine gr_iload dX3_copy_24 rfl ?_
      refine gr_if_ge (tgt := 35) dX3_copy_26 (by decide) h (fun _ h => ?_) (fun _ h => ?_)
      · refine gr_aload_n dX3_copy_29 rfl rfl ?_
        refine gr_iconst dX3_copy_30 gk_i_5 ?_
        obtain ⟨x3, hx3, h⟩ := gn_bd h
        refine gc_VI (c_X3_found hx3) my_X3_found mv_X3_found ob_0 ml_X3_99 rfl rfl ⟨Nat.le_of_ble_eq_true rfl, Nat.le_of_ble_eq_true rfl⟩ (Nat.le_of_ble_eq_true rfl) dX3_copy_31 (fun fx3 => ?_)
        exact gq_retIM dX3_copy_34 rfl h
      · refine gr_aload_n dX3_copy_35 rfl rfl ?_
        refine gr_getR q_0_0 fl_X3_14 dX3_copy_36 ?_
        refine gr_iload_n dX3_copy_39 rfl rfl ?_
        obtain ⟨x4, hx4, h⟩ := gn_bd h
        refine gc_VNI (c_X2_missing_r hx4) my_X2_missing mv_X2_missing ob_1 ml_X3_102 rfl rfl ⟨Nat.le_of_ble_eq_true rfl, Nat.le_of_ble_eq_true rfl⟩ (Nat.le_of_ble_eq_true rfl) dX3_copy_40 (fun fx4 => ?_)
        refine gr_if_ne (tgt := 57) dX3_copy_43 (by decide) h (fun _ h => ?_) (fun _ h => ?_)
        · refine gr_aload_n dX3_copy_46 rfl rfl ?_
          refine gr_getR q_0_0 fl_X3_14 dX3_copy_47 ?_
          refine gr_iload_n dX3_copy_50 rfl rfl ?_
          obtain ⟨x5, hx5, h⟩ := gn_bd h
          refine gc_VNI (c_X2_missing_r hx5) my_X2_missing mv_X2_missing ob_1 ml_X3_102 rfl rfl ⟨Nat.le_of_ble_eq_true rfl, Nat.le_of_ble_eq_true rfl⟩ (Nat.le_of_ble_eq_true rfl) dX3_copy_51 (fun fx5 => ?_)
          refine gr_if_eq (tgt := 63) dX3_copy_54 (by decide) h (fun _ h => ?_) (fun _ h => ?_)
          · refine gr_aload_n dX3_copy_63 rfl rfl ?_
            refine gr_getR q_0_0 fl_X3_14 dX3_copy_64 ?_
            refine gr_iload_n dX3_copy_67 rfl rfl ?_
            refine gr_iload_n dX3_copy_68 rfl rfl ?_
            refine gr_iload dX3_copy_69 rfl ?_
            obtain ⟨x6, hx6, h⟩ := gn_bd h
            refine gc_VNI (c_X2_reaches_r hx6) my_X2_reaches mv_X2_reaches ob_1 ml_X3_105 rfl rfl ⟨Nat.le_of_ble_eq_true rfl, Nat.le_of_ble_eq_true rfl⟩ (Nat.le_of_ble_eq_true rfl) dX3_copy_71 (fun fx6 => ?_)
            refine gr_if_eq (tgt := 92) dX3_copy_74 (by decide) h (fun _ h => ?_) (fun _ h => ?_)
            · refine gr_aload_n dX3_copy_92 rfl rfl ?_
              refine gr_iconst dX3_copy_93 gk_i_2 ?_
              obtain ⟨x7, hx7, h⟩ := gn_bd h
              refine gc_VI (c_X3_found hx7) my_X3_found mv_X3_found ob_0 ml_X3_99 rfl rfl ⟨Nat.le_of_ble_eq_true rfl, Nat.le_of_ble_eq_true rfl⟩ (Nat.le_of_ble_eq_true rfl) dX3_copy_94 (fun fx7 => ?_)
              exact gq_retIM dX3_copy_97 rfl h
            · refine gr_aload_n dX3_copy_77 rfl rfl ?_
              refine gr_getR q_0_0 fl_X3_14 dX3_copy_78 ?_
              refine gr_iload_n dX3_copy_81 rfl rfl ?_
              refine gr_iload dX3_copy_82 rfl ?_
              refine gr_iload dX3_copy_84 rfl ?_
              obtain ⟨x8, hx8, h⟩ := gn_bd h
              refine gc_VNI (c_X2_reaches_r hx8) my_X2_reaches mv_X2_reaches ob_1 ml_X3_105 rfl rfl ⟨Nat.le_of_ble_eq_true rfl, Nat.le_of_ble_eq_true rfl⟩ (Nat.le_of_ble_eq_true rfl) dX3_copy_86 (fun fx8 => ?_)
              refine gr_if_ne (tgt := 98) dX3_copy_89 (by decide) h (fun _ h => ?_) (fun _ h => ?_)
              · refine gr_aload_n dX3_copy_92 rfl rfl ?_
                refine gr_iconst dX3_copy_93 gk_i_2 ?_
                obtain ⟨x9, hx9, h⟩ := gn_bd h
                refine gc_VI (c_X3_found hx9) my_X3_found mv_X3_found ob_0 ml_X3_99 rfl rfl ⟨Nat.le_of_ble_eq_true rfl, Nat.le_of_ble_eq_true rfl⟩ (Nat.le_of_ble_eq_true rfl) dX3_copy_94 (fun fx9 => ?_)
                exact gq_retIM dX3_copy_97 rfl h
              · refine gr_aload_n dX3_copy_98 rfl rfl ?_
                refine gr_getR q_0_0 fl_X3_14 dX3_copy_99 ?_
                refine gr_getRN q_1_0 fl_X3_81 dX3_copy_102 ?_
                refine gr_iload_n dX3_copy_105 rfl rfl ?_
                refine gq_aaload ra_2 dX3_copy_106 h (fun k10 hk10 h => ?_)
                refine gr_iload_n dX3_copy_107 rfl rfl ?_
                refine gr_aload_n dX3_copy_108 rfl rfl ?_
                refine gr_getR q_0_0 fl_X3_14 dX3_copy_109 ?_
                refine gr_getRN q_1_0 fl_X3_81 dX3_copy_112 ?_
                refine gr_iload_n dX3_copy_115 rfl rfl ?_
                refine gq_aaload ra_2 dX3_copy_116 h (fun k11 hk11 h => ?_)
                refine gr_iload dX3_copy_117 rfl ?_
                refine gr_iload dX3_copy_119 rfl ?_
                refine gq_copy hk10 hk11 ml_X3_109 w_copy ⟨Nat.le_of_ble_eq_true rfl, Nat.le_of_ble_eq_true rfl⟩ dX3_copy_121 h (fun m12 h => ?_)
                refine gr_iconst dX3_copy_124 gk_i_1 ?_
                exact gq_retIM dX3_copy_125 rfl h
          · refine gr_aload_n dX3_copy_57 rfl rfl ?_
            refine gr_iconst dX3_copy_58 gk_i_1 ?_
            obtain ⟨x13, hx13, h⟩ := gn_bd h
            refine gc_VI (c_X3_found hx13) my_X3_found mv_X3_found ob_0 ml_X3_99 rfl rfl ⟨Nat.le_of_ble_eq_true rfl, Nat.le_of_ble_eq_true rfl⟩ (Nat.le_of_ble_eq_true rfl) dX3_copy_59 (fun fx13 => ?_)
            exact gq_retIM dX3_copy_62 rfl h
        · refine gr_aload_n dX3_copy_57 rfl rfl ?_
          refine gr_iconst dX3_copy_58 gk_i_1 ?_
          obtain ⟨x14, hx14, h⟩ := gn_bd h
          refine gc_VI (c_X3_found hx14) my_X3_found mv_X3_found ob_0 ml_X3_99 rfl rfl ⟨Nat.le_of_ble_eq_true rfl, Nat.le_of_ble_eq_true rfl⟩ (Nat.le_of_ble_eq_true rfl) dX3_copy_59 (fun fx14 => ?_)
          exact gq_retIM dX3_copy_62 rfl h
def L_X2_total_r_5 (n : Nat) (m : gn_M) (a1 : Int32) (k : Int64 → Option (Int64)) : Nat → Int64 → Int32 → Option (Int64)
  | 0, _, _ => none
  | f + 1, v2, v4 => gn_rd m 3 6 a1 (fun x1 => (if v4 < x1 then gn_ra 10 6 a1 (fun k2 => gn_rd m k2 40 v4 (fun x3 => L_X2_total_r_5 n m a1 k f (v2 + x3.toInt64) (v4 + (1 : Int32)))) else k v2))
set_option maxRecDepth 100000 in
set_option maxHeartbeats 4000000 in
theorem l_X2_total_r_5 {n : Nat} {m : gn_M} {a1 : Int32} {k : Int64 → Option (Int64)} {v : Int64} (hk : ∀ (e2 : Int64), k e2 = some v → gn_Go RX2 cX2_total 5 0 0 (some .long) none 35 [none, none, some (.long e2), none, none] [] m (some (.long v)) m) : ∀ (f : Nat) (v2 : Int64) (v4 : Int32), L_X2_total_r_5 n m a1 k f v2 v4 = some v → gn_Go RX2 cX2_total 5 0 0 (some .long) none 5 [some (.ref 1), some (.int a1), some (.long v2), none, some (.int v4)] [] m (some (.long v)) m := by
  intro f
  induction f with
  | zero =>
    intro v2 v4 h
    cases h
  | succ f ih =>
    intro v2 v4 h
    rw [L_X2_total_r_5] at h
    refine gr_iload dX2_total_5 rfl ?_
    refine gr_aload_n dX2_total_7 rfl rfl ?_
    refine gr_getR q_1_1 fl_X2_14 dX2_total_8 ?_
    refine gr_iload_n dX2_total_11 rfl rfl ?_
    refine gq_iaload s_3 dX2_total_12 h (fun x1 h => ?_)
    refine gr_icmp_ge (tgt := 35) dX2_total_13 (by decide) h (fun _ h => ?_) (fun _ h => ?_)
    · refine gr_lload_n dX2_total_16 rfl rfl ?_
      refine gr_aload_n dX2_total_17 rfl rfl ?_
      refine gr_getR q_1_0 fl_X2_9 dX2_total_18 ?_
      refine gr_iload_n dX2_total_21 rfl rfl ?_
      refine gq_aaload ra_2 dX2_total_22 h (fun k2 hk2 h => ?_)
      refine gr_iload dX2_total_23 rfl ?_
      refine gq_iaload hk2 dX2_total_25 h (fun x3 h => ?_)
      refine gr_i2l dX2_total_26 ?_
      refine gr_ladd dX2_total_27 ?_
      refine gr_lstore_n (lv' := [some (.ref 1), some (.int a1), some (.long (v2 + x3.toInt64)), none, some (.int v4)]) dX2_total_28 rfl (by decide) rfl ?_
      refine gr_iinc (lv' := [some (.ref 1), some (.int a1), some (.long (v2 + x3.toInt64)), none, some (.int (v4 + (1 : Int32)))]) dX2_total_29 rfl gk_i_1 (by decide) rfl ?_
      refine gr_goto (tgt := 5) dX2_total_32 (by decide) ?_
      exact ih _ _ h
    · refine gn_wkn [false, false, true, false, false] rfl ?_
      exact hk _ h
def f_X2_total_r (n : Nat) (m : gn_M) (p0 : Int32) : Option (Int64) := L_X2_total_r_5 n m p0 (fun (e4 : Int64) => some e4) n (0 : Int64) (0 : Int32)
set_option maxRecDepth 100000 in
set_option maxHeartbeats 4000000 in
theorem c_X2_total_r {n : Nat} {m : gn_M} {p0 : Int32} {v : Int64} (h : f_X2_total_r n m p0 = some v) : gn_Cl yX2_total cX2_total 5 (some .long) 0 0 [.ref 1, .int p0] m (some (.long v)) m := by
  rw [f_X2_total_r] at h
  refine gn_met (lv := [some (.ref 1), some (.int p0), none, none, none]) pl_X2 rfl rfl (Nat.le_of_ble_eq_true rfl) ?_
  refine gr_lconst dX2_total_0 gk_l_0 ?_
  refine gr_lstore_n (lv' := [some (.ref 1), some (.int p0), some (.long (0 : Int64)), none, none]) dX2_total_1 rfl (by decide) rfl ?_
  refine gr_iconst dX2_total_2 gk_i_0 ?_
  refine gr_istore (lv' := [some (.ref 1), some (.int p0), some (.long (0 : Int64)), none, some (.int (0 : Int32))]) dX2_total_3 (by decide) rfl ?_
  refine l_X2_total_r_5 (fun e4 h => ?_) _ _ _ h
  refine gr_lload_n dX2_total_35 rfl rfl ?_
  exact gq_retL dX2_total_36 trivial h
def L_X2_total_t_5 (n : Nat) (m : gn_M) (a1 : Int32) (k : Int64 → Option (Int64)) : Nat → Int64 → Int32 → Option (Int64)
  | 0, _, _ => none
  | f + 1, v2, v4 => gn_rd m 6 4 a1 (fun x1 => (if v4 < x1 then gn_ra 16 4 a1 (fun k2 => gn_rd m k2 60 v4 (fun x3 => L_X2_total_t_5 n m a1 k f (v2 + x3.toInt64) (v4 + (1 : Int32)))) else k v2))
set_option maxRecDepth 100000 in
set_option maxHeartbeats 4000000 in
theorem l_X2_total_t_5 {n : Nat} {m : gn_M} {a1 : Int32} {k : Int64 → Option (Int64)} {v : Int64} (hk : ∀ (e2 : Int64), k e2 = some v → gn_Go RX2 cX2_total 5 0 0 (some .long) none 35 [none, none, some (.long e2), none, none] [] m (some (.long v)) m) : ∀ (f : Nat) (v2 : Int64) (v4 : Int32), L_X2_total_t_5 n m a1 k f v2 v4 = some v → gn_Go RX2 cX2_total 5 0 0 (some .long) none 5 [some (.ref 4), some (.int a1), some (.long v2), none, some (.int v4)] [] m (some (.long v)) m := by
  intro f
  induction f with
  | zero =>
    intro v2 v4 h
    cases h
  | succ f ih =>
    intro v2 v4 h
    rw [L_X2_total_t_5] at h
    refine gr_iload dX2_total_5 rfl ?_
    refine gr_aload_n dX2_total_7 rfl rfl ?_
    refine gr_getR q_4_1 fl_X2_14 dX2_total_8 ?_
    refine gr_iload_n dX2_total_11 rfl rfl ?_
    refine gq_iaload s_6 dX2_total_12 h (fun x1 h => ?_)
    refine gr_icmp_ge (tgt := 35) dX2_total_13 (by decide) h (fun _ h => ?_) (fun _ h => ?_)
    · refine gr_lload_n dX2_total_16 rfl rfl ?_
      refine gr_aload_n dX2_total_17 rfl rfl ?_
      refine gr_getR q_4_0 fl_X2_9 dX2_total_18 ?_
      refine gr_iload_n dX2_total_21 rfl rfl ?_
      refine gq_aaload ra_5 dX2_total_22 h (fun k2 hk2 h => ?_)
      refine gr_iload dX2_total_23 rfl ?_
      refine gq_iaload hk2 dX2_total_25 h (fun x3 h => ?_)
      refine gr_i2l dX2_total_26 ?_
      refine gr_ladd dX2_total_27 ?_
      refine gr_lstore_n (lv' := [some (.ref 4), some (.int a1), some (.long (v2 + x3.toInt64)), none, some (.int v4)]) dX2_total_28 rfl (by decide) rfl ?_
      refine gr_iinc (lv' := [some (.ref 4), some (.int a1), some (.long (v2 + x3.toInt64)), none, some (.int (v4 + (1 : Int32)))]) dX2_total_29 rfl gk_i_1 (by decide) rfl ?_
      refine gr_goto (tgt := 5) dX2_total_32 (by decide) ?_
      exact ih _ _ h
    · refine gn_wkn [false, false, true, false, false] rfl ?_
      exact hk _ h
def f_X2_total_t (n : Nat) (m : gn_M) (p0 : Int32) : Option (Int64) := L_X2_total_t_5 n m p0 (fun (e4 : Int64) => some e4) n (0 : Int64) (0 : Int32)
set_option maxRecDepth 100000 in
set_option maxHeartbeats 4000000 in
theorem c_X2_total_t {n : Nat} {m : gn_M} {p0 : Int32} {v : Int64} (h : f_X2_total_t n m p0 = some v) : gn_Cl yX2_total cX2_total 5 (some .long) 0 0 [.ref 4, .int p0] m (some (.long v)) m := by
  rw [f_X2_total_t] at h
  refine gn_met (lv := [some (.ref 4), some (.int p0), none, none, none]) pl_X2 rfl rfl (Nat.le_of_ble_eq_true rfl) ?_
  refine gr_lconst dX2_total_0 gk_l_0 ?_
  refine gr_lstore_n (lv' := [some (.ref 4), some (.int p0), some (.long (0 : Int64)), none, none]) dX2_total_1 rfl (by decide) rfl ?_
  refine gr_iconst dX2_total_2 gk_i_0 ?_
  refine gr_istore (lv' := [some (.ref 4), some (.int p0), some (.long (0 : Int64)), none, some (.int (0 : Int32))]) dX2_total_3 (by decide) rfl ?_
  refine l_X2_total_t_5 (fun e4 h => ?_) _ _ _ h
  refine gr_lload_n dX2_total_35 rfl rfl ?_
  exact gq_retL dX2_total_36 trivial h
def f_X3_mean (n : Nat) (m : gn_M) (p0 : Int32) : Option (Int32 × gn_M) := (f_X3_refusalOfStrip_r m p0).bind (fun x1 => (if x1.1 = 0 then gn_rd x1.2 3 6 p0 (fun x2 => (if 0 < x2 then (f_X2_total_r n x1.2 p0).bind (fun x3 => gn_dvL x2.toInt64 ((f_X3_toldByAsked x1.2 (x3 / x2.toInt64).toInt32).bind (fun x4 => some (x4.1, x4.2)))) else (f_X3_found x1.2 (4 : Int32)).bind (fun x5 => some (x5.1, x5.2)))) else some (x1.1, x1.2)))
set_option maxRecDepth 100000 in
set_option maxHeartbeats 4000000 in
theorem c_X3_mean {n : Nat} {m : gn_M} {p0 : Int32} {v : Int32 × gn_M} (h : f_X3_mean n m p0 = some v) : gn_Cl yX3_mean cX3_mean 4 (some .int) 2 43 [.ref 0, .int p0] m (some (.int v.1)) v.2 := by
  rw [f_X3_mean] at h
  refine gn_met (lv := [some (.ref 0), some (.int p0), none, none]) pl_X3 rfl rfl (Nat.le_of_ble_eq_true rfl) ?_
  refine gr_aload_n dX3_mean_0 rfl rfl ?_
  refine gr_aload_n dX3_mean_1 rfl rfl ?_
  refine gr_getR q_0_0 fl_X3_14 dX3_mean_2 ?_
  refine gr_iload_n dX3_mean_5 rfl rfl ?_
  obtain ⟨x1, hx1, h⟩ := gn_bd h
  refine gc_VI (c_X3_refusalOfStrip_r hx1) my_X3_refusalOfStrip mv_X3_refusalOfStrip ob_0 ml_X3_88 rfl rfl ⟨Nat.le_of_ble_eq_true rfl, Nat.le_of_ble_eq_true rfl⟩ (Nat.le_of_ble_eq_true rfl) dX3_mean_6 (fun fx1 => ?_)
  refine gr_istore_n (lv' := [some (.ref 0), some (.int p0), some (.int x1.1), none]) dX3_mean_9 rfl (by decide) rfl ?_
  refine gr_iload_n dX3_mean_10 rfl rfl ?_
  refine gr_if_eq (tgt := 16) dX3_mean_11 (by decide) h (fun _ h => ?_) (fun _ h => ?_)
  · refine gr_aload_n dX3_mean_16 rfl rfl ?_
    refine gr_getR q_0_0 fl_X3_14 dX3_mean_17 ?_
    refine gr_getRN q_1_1 fl_X3_92 dX3_mean_20 ?_
    refine gr_iload_n dX3_mean_23 rfl rfl ?_
    refine gq_iaload s_3 dX3_mean_24 h (fun x2 h => ?_)
    refine gr_istore_n (lv' := [some (.ref 0), some (.int p0), some (.int x1.1), some (.int x2)]) dX3_mean_25 rfl (by decide) rfl ?_
    refine gr_iload_n dX3_mean_26 rfl rfl ?_
    refine gr_if_gt (tgt := 36) dX3_mean_27 (by decide) h (fun _ h => ?_) (fun _ h => ?_)
    · refine gr_aload_n dX3_mean_36 rfl rfl ?_
      refine gr_aload_n dX3_mean_37 rfl rfl ?_
      refine gr_getR q_0_0 fl_X3_14 dX3_mean_38 ?_
      refine gr_iload_n dX3_mean_41 rfl rfl ?_
      obtain ⟨x3, hx3, h⟩ := gn_bd h
      refine gc_VNL (c_X2_total_r hx3) my_X2_total mv_X2_total ob_1 ml_X3_115 rfl rfl ⟨Nat.le_of_ble_eq_true rfl, Nat.le_of_ble_eq_true rfl⟩ (Nat.le_of_ble_eq_true rfl) dX3_mean_42 (fun fx3 => ?_)
      refine gr_iload_n dX3_mean_45 rfl rfl ?_
      refine gr_i2l dX3_mean_46 ?_
      refine gq_ldiv dX3_mean_47 h (fun h => ?_)
      refine gr_l2i dX3_mean_48 ?_
      obtain ⟨x4, hx4, h⟩ := gn_bd h
      refine gc_VI (c_X3_toldByAsked hx4) my_X3_toldByAsked mv_X3_toldByAsked ob_0 ml_X3_84 rfl rfl ⟨Nat.le_of_ble_eq_true rfl, Nat.le_of_ble_eq_true rfl⟩ (Nat.le_of_ble_eq_true rfl) dX3_mean_49 (fun fx4 => ?_)
      exact gq_retIM dX3_mean_52 rfl h
    · refine gr_aload_n dX3_mean_30 rfl rfl ?_
      refine gr_iconst dX3_mean_31 gk_i_4 ?_
      obtain ⟨x5, hx5, h⟩ := gn_bd h
      refine gc_VI (c_X3_found hx5) my_X3_found mv_X3_found ob_0 ml_X3_99 rfl rfl ⟨Nat.le_of_ble_eq_true rfl, Nat.le_of_ble_eq_true rfl⟩ (Nat.le_of_ble_eq_true rfl) dX3_mean_32 (fun fx5 => ?_)
      exact gq_retIM dX3_mean_35 rfl h
  · refine gr_iload_n dX3_mean_14 rfl rfl ?_
    exact gq_retIM dX3_mean_15 rfl h
def f_X3_text (n : Nat) (m : gn_M) (p0 : Int32) (p1 : Int32) : Option (Int32 × gn_M) := (f_X3_make_t n m p0 p1 (32 : Int32)).bind (fun x1 => some (x1.1, x1.2))
set_option maxRecDepth 100000 in
set_option maxHeartbeats 4000000 in
theorem c_X3_text {n : Nat} {m : gn_M} {p0 : Int32} {p1 : Int32} {v : Int32 × gn_M} (h : f_X3_text n m p0 p1 = some v) : gn_Cl yX3_text cX3_text 3 (some .int) 3 70 [.ref 0, .int p0, .int p1] m (some (.int v.1)) v.2 := by
  rw [f_X3_text] at h
  refine gn_met (lv := [some (.ref 0), some (.int p0), some (.int p1)]) pl_X3 rfl rfl (Nat.le_of_ble_eq_true rfl) ?_
  refine gr_aload_n dX3_text_0 rfl rfl ?_
  refine gr_aload_n dX3_text_1 rfl rfl ?_
  refine gr_getR q_0_1 fl_X3_18 dX3_text_2 ?_
  refine gr_iload_n dX3_text_5 rfl rfl ?_
  refine gr_iload_n dX3_text_6 rfl rfl ?_
  refine gr_bipush dX3_text_7 gk_b_32 ?_
  obtain ⟨x1, hx1, h⟩ := gn_bd h
  refine gc_VI (c_X3_make_t hx1) my_X3_make mv_X3_make ob_0 ml_X3_73 rfl rfl ⟨Nat.le_of_ble_eq_true rfl, Nat.le_of_ble_eq_true rfl⟩ (Nat.le_of_ble_eq_true rfl) dX3_text_9 (fun fx1 => ?_)
  exact gq_retIM dX3_text_12 rfl h
def f_X3_put (m : gn_M) (p0 : Int32) (p1 : Int32) (p2 : Int32) : Option (Int32 × gn_M) := (f_X3_refusalOfPlace_t m p0 p1).bind (fun x1 => (if x1.1 = 0 then gn_ra 16 4 p0 (fun k2 => gn_rd x1.2 k2 60 p1 (fun x3 => gn_ra 16 4 p0 (fun k4 => gn_wr x1.2 k4 60 p1 p2.toInt8.toInt32 (fun m5 => some ((x3 + (1000 : Int32)), m5))))) else some (x1.1, x1.2)))
set_option maxRecDepth 100000 in
set_option maxHeartbeats 4000000 in
theorem c_X3_put {m : gn_M} {p0 : Int32} {p1 : Int32} {p2 : Int32} {v : Int32 × gn_M} (h : f_X3_put m p0 p1 p2 = some v) : gn_Cl yX3_put cX3_put 6 (some .int) 3 67 [.ref 0, .int p0, .int p1, .int p2] m (some (.int v.1)) v.2 := by
  rw [f_X3_put] at h
  refine gn_met (lv := [some (.ref 0), some (.int p0), some (.int p1), some (.int p2), none, none]) pl_X3 rfl rfl (Nat.le_of_ble_eq_true rfl) ?_
  refine gr_aload_n dX3_put_0 rfl rfl ?_
  refine gr_aload_n dX3_put_1 rfl rfl ?_
  refine gr_getR q_0_1 fl_X3_18 dX3_put_2 ?_
  refine gr_iload_n dX3_put_5 rfl rfl ?_
  refine gr_iload_n dX3_put_6 rfl rfl ?_
  obtain ⟨x1, hx1, h⟩ := gn_bd h
  refine gc_VI (c_X3_refusalOfPlace_t hx1) my_X3_refusalOfPlace mv_X3_refusalOfPlace ob_0 ml_X3_77 rfl rfl ⟨Nat.le_of_ble_eq_true rfl, Nat.le_of_ble_eq_true rfl⟩ (Nat.le_of_ble_eq_true rfl) dX3_put_7 (fun fx1 => ?_)
  refine gr_istore (lv' := [some (.ref 0), some (.int p0), some (.int p1), some (.int p2), some (.int x1.1), none]) dX3_put_10 (by decide) rfl ?_
  refine gr_iload dX3_put_12 rfl ?_
  refine gr_if_eq (tgt := 20) dX3_put_14 (by decide) h (fun _ h => ?_) (fun _ h => ?_)
  · refine gr_aload_n dX3_put_20 rfl rfl ?_
    refine gr_getR q_0_1 fl_X3_18 dX3_put_21 ?_
    refine gr_getRN q_4_0 fl_X3_81 dX3_put_24 ?_
    refine gr_iload_n dX3_put_27 rfl rfl ?_
    refine gq_aaload ra_5 dX3_put_28 h (fun k2 hk2 h => ?_)
    refine gr_iload_n dX3_put_29 rfl rfl ?_
    refine gq_iaload hk2 dX3_put_30 h (fun x3 h => ?_)
    refine gr_istore (lv' := [some (.ref 0), some (.int p0), some (.int p1), some (.int p2), some (.int x1.1), some (.int x3)]) dX3_put_31 (by decide) rfl ?_
    refine gr_aload_n dX3_put_33 rfl rfl ?_
    refine gr_getR q_0_1 fl_X3_18 dX3_put_34 ?_
    refine gr_getRN q_4_0 fl_X3_81 dX3_put_37 ?_
    refine gr_iload_n dX3_put_40 rfl rfl ?_
    refine gq_aaload ra_5 dX3_put_41 h (fun k4 hk4 h => ?_)
    refine gr_iload_n dX3_put_42 rfl rfl ?_
    refine gr_iload_n dX3_put_43 rfl rfl ?_
    refine gr_i2b dX3_put_44 ?_
    refine gq_iastore hk4 dX3_put_45 h (fun m5 h => ?_)
    refine gr_iload dX3_put_46 rfl ?_
    refine gr_sipush dX3_put_48 gk_s_1000 ?_
    refine gr_iadd dX3_put_51 ?_
    exact gq_retIM dX3_put_52 rfl h
  · refine gr_iload dX3_put_17 rfl ?_
    exact gq_retIM dX3_put_19 rfl h
def L_X3_kindOfLetter_2 (n : Nat) (m : gn_M) (a0 : Int32) (k : Unit → Option (Int32)) : Nat → Int32 → Option (Int32)
  | 0, _ => none
  | f + 1, v1 => (if v1 < (6 : Int32) then gn_rl v1 (fun x1 => (if x1 = a0 then some v1 else L_X3_kindOfLetter_2 n m a0 k f (v1 + (1 : Int32)))) else k ())
set_option maxRecDepth 100000 in
set_option maxHeartbeats 4000000 in
theorem l_X3_kindOfLetter_2 {n : Nat} {m : gn_M} {a0 : Int32} {k : Unit → Option (Int32)} {v : Int32} (hk : ∀ (u : Unit), k u = some v → gn_Go RX3 cX3_kindOfLetter 2 0 0 (some .int) none 25 [none, none] [] m (some (.int v)) m) : ∀ (f : Nat) (v1 : Int32), L_X3_kindOfLetter_2 n m a0 k f v1 = some v → gn_Go RX3 cX3_kindOfLetter 2 0 0 (some .int) none 2 [some (.int a0), some (.int v1)] [] m (some (.int v)) m := by
  intro f
  induction f with
  | zero =>
    intro v1 h
    cases h
  | succ f ih =>
    intro v1 h
    rw [L_X3_kindOfLetter_2] at h
    refine gr_iload_n dX3_kindOfLetter_2 rfl rfl ?_
    refine gr_bipush dX3_kindOfLetter_3 gk_b_6 ?_
    refine gr_icmp_ge (tgt := 25) dX3_kindOfLetter_5 (by decide) h (fun _ h => ?_) (fun _ h => ?_)
    · refine gr_letters fl_letters dX3_kindOfLetter_8 ?_
      refine gr_iload_n dX3_kindOfLetter_11 rfl rfl ?_
      refine gq_letter dX3_kindOfLetter_12 h (fun x1 h => ?_)
      refine gr_iload_n dX3_kindOfLetter_13 rfl rfl ?_
      refine gr_icmp_ne (tgt := 19) dX3_kindOfLetter_14 (by decide) h (fun _ h => ?_) (fun _ h => ?_)
      · refine gr_iload_n dX3_kindOfLetter_17 rfl rfl ?_
        exact gq_retI dX3_kindOfLetter_18 rfl h
      · refine gr_iinc (lv' := [some (.int a0), some (.int (v1 + (1 : Int32)))]) dX3_kindOfLetter_19 rfl gk_i_1 (by decide) rfl ?_
        refine gr_goto (tgt := 2) dX3_kindOfLetter_22 (by decide) ?_
        exact ih _ h
    · refine gn_wkn [false, false] rfl ?_
      exact hk _ h
def f_X3_kindOfLetter (n : Nat) (m : gn_M) (p0 : Int32) : Option (Int32) := L_X3_kindOfLetter_2 n m p0 (fun (_ : Unit) => some (-9 : Int32)) n (0 : Int32)
set_option maxRecDepth 100000 in
set_option maxHeartbeats 4000000 in
theorem c_X3_kindOfLetter {n : Nat} {m : gn_M} {p0 : Int32} {v : Int32} (h : f_X3_kindOfLetter n m p0 = some v) : gn_Cl yX3_kindOfLetter cX3_kindOfLetter 2 (some .int) 0 0 [.int p0] m (some (.int v)) m := by
  rw [f_X3_kindOfLetter] at h
  refine gn_met (lv := [some (.int p0), none]) pl_X3 rfl rfl (Nat.le_of_ble_eq_true rfl) ?_
  refine gr_iconst dX3_kindOfLetter_0 gk_i_0 ?_
  refine gr_istore_n (lv' := [some (.int p0), some (.int (0 : Int32))]) dX3_kindOfLetter_1 rfl (by decide) rfl ?_
  refine l_X3_kindOfLetter_2 (fun _ h => ?_) _ _ h
  refine gr_bipush dX3_kindOfLetter_25 gk_b_m9 ?_
  exact gq_retI dX3_kindOfLetter_27 rfl h
def f_X3_isFigure (p0 : Int32) : Option (Int32) := (if p0 < (48 : Int32) then some (0 : Int32) else (if (57 : Int32) < p0 then some (0 : Int32) else some (1 : Int32)))
set_option maxRecDepth 100000 in
set_option maxHeartbeats 4000000 in
theorem c_X3_isFigure {m : gn_M} {p0 : Int32} {v : Int32} (h : f_X3_isFigure p0 = some v) : gn_Cl yX3_isFigure cX3_isFigure 1 (some .boolean) 0 0 [.int p0] m (some (.int v)) m := by
  rw [f_X3_isFigure] at h
  refine gn_met (lv := [some (.int p0)]) pl_X3 rfl rfl (Nat.le_of_ble_eq_true rfl) ?_
  refine gr_iload_n dX3_isFigure_0 rfl rfl ?_
  refine gr_bipush dX3_isFigure_1 gk_b_48 ?_
  refine gr_icmp_lt (tgt := 16) dX3_isFigure_3 (by decide) h (fun _ h => ?_) (fun _ h => ?_)
  · refine gr_iconst dX3_isFigure_16 gk_i_0 ?_
    exact gq_retI dX3_isFigure_17 rfl h
  · refine gr_iload_n dX3_isFigure_6 rfl rfl ?_
    refine gr_bipush dX3_isFigure_7 gk_b_57 ?_
    refine gr_icmp_gt (tgt := 16) dX3_isFigure_9 (by decide) h (fun _ h => ?_) (fun _ h => ?_)
    · refine gr_iconst dX3_isFigure_16 gk_i_0 ?_
      exact gq_retI dX3_isFigure_17 rfl h
    · refine gr_iconst dX3_isFigure_12 gk_i_1 ?_
      refine gr_goto (tgt := 17) dX3_isFigure_13 (by decide) ?_
      exact gq_retI dX3_isFigure_17 rfl h
def f_X3_goodSigns (n : Nat) (m : gn_M) (p0 : Nat) (p1 : Int32) (p2 : Int32) : Option (Int32) := (if p2 < p1 then gn_rd m p0 60 p2 (fun x1 => (f_X3_kindOfLetter n m x1).bind (fun x2 => (if x2 = (-9 : Int32) then some (0 : Int32) else (if (p2 + (1 : Int32)) < p1 then gn_rd m p0 60 (p2 + (1 : Int32)) (fun x3 => (f_X3_isFigure x3).bind (fun x4 => (if x4 = 0 then some (1 : Int32) else (if (p2 + (2 : Int32)) < p1 then gn_rd m p0 60 (p2 + (2 : Int32)) (fun x5 => (f_X3_isFigure x5).bind (fun x6 => (if x6 = 0 then some (2 : Int32) else some (3 : Int32)))) else some (2 : Int32))))) else some (1 : Int32))))) else some (0 : Int32))
set_option maxRecDepth 100000 in
set_option maxHeartbeats 4000000 in
theorem c_X3_goodSigns {n : Nat} {m : gn_M} {p0 : Nat} {p1 : Int32} {p2 : Int32} {v : Int32} (hp0 : gn_S[p0]? = some (.inl (0, 60))) (h : f_X3_goodSigns n m p0 p1 p2 = some v) : gn_Cl yX3_goodSigns cX3_goodSigns 3 (some .int) 1 21 [.ref p0, .int p1, .int p2] m (some (.int v)) m := by
  rw [f_X3_goodSigns] at h
  refine gn_met (lv := [some (.ref p0), some (.int p1), some (.int p2)]) pl_X3 rfl rfl (Nat.le_of_ble_eq_true rfl) ?_
  refine gr_iload_n dX3_goodSigns_0 rfl rfl ?_
  refine gr_iload_n dX3_goodSigns_1 rfl rfl ?_
  refine gr_icmp_ge (tgt := 16) dX3_goodSigns_2 (by decide) h (fun _ h => ?_) (fun _ h => ?_)
  · refine gr_aload_n dX3_goodSigns_5 rfl rfl ?_
    refine gr_iload_n dX3_goodSigns_6 rfl rfl ?_
    refine gq_iaload hp0 dX3_goodSigns_7 h (fun x1 h => ?_)
    obtain ⟨x2, hx2, h⟩ := gn_bd h
    refine gc_SI (c_X3_kindOfLetter hx2) my_X3_kindOfLetter ms_X3_kindOfLetter ml_X3_350 rfl rfl ⟨Nat.le_of_ble_eq_true rfl, Nat.le_of_ble_eq_true rfl⟩ (Nat.le_of_ble_eq_true rfl) dX3_goodSigns_8 (fun fx2 => ?_)
    refine gr_bipush dX3_goodSigns_11 gk_b_m9 ?_
    refine gr_icmp_ne (tgt := 18) dX3_goodSigns_13 (by decide) h (fun _ h => ?_) (fun _ h => ?_)
    · refine gr_iconst dX3_goodSigns_16 gk_i_0 ?_
      exact gq_retI dX3_goodSigns_17 rfl h
    · refine gr_iload_n dX3_goodSigns_18 rfl rfl ?_
      refine gr_iconst dX3_goodSigns_19 gk_i_1 ?_
      refine gr_iadd dX3_goodSigns_20 ?_
      refine gr_iload_n dX3_goodSigns_21 rfl rfl ?_
      refine gr_icmp_ge (tgt := 36) dX3_goodSigns_22 (by decide) h (fun _ h => ?_) (fun _ h => ?_)
      · refine gr_aload_n dX3_goodSigns_25 rfl rfl ?_
        refine gr_iload_n dX3_goodSigns_26 rfl rfl ?_
        refine gr_iconst dX3_goodSigns_27 gk_i_1 ?_
        refine gr_iadd dX3_goodSigns_28 ?_
        refine gq_iaload hp0 dX3_goodSigns_29 h (fun x3 h => ?_)
        obtain ⟨x4, hx4, h⟩ := gn_bd h
        refine gc_SI (c_X3_isFigure hx4) my_X3_isFigure ms_X3_isFigure ml_X3_353 rfl rfl ⟨Nat.le_of_ble_eq_true rfl, Nat.le_of_ble_eq_true rfl⟩ (Nat.le_of_ble_eq_true rfl) dX3_goodSigns_30 (fun fx4 => ?_)
        refine gr_if_ne (tgt := 38) dX3_goodSigns_33 (by decide) h (fun _ h => ?_) (fun _ h => ?_)
        · refine gr_iconst dX3_goodSigns_36 gk_i_1 ?_
          exact gq_retI dX3_goodSigns_37 rfl h
        · refine gr_iload_n dX3_goodSigns_38 rfl rfl ?_
          refine gr_iconst dX3_goodSigns_39 gk_i_2 ?_
          refine gr_iadd dX3_goodSigns_40 ?_
          refine gr_iload_n dX3_goodSigns_41 rfl rfl ?_
          refine gr_icmp_ge (tgt := 56) dX3_goodSigns_42 (by decide) h (fun _ h => ?_) (fun _ h => ?_)
          · refine gr_aload_n dX3_goodSigns_45 rfl rfl ?_
            refine gr_iload_n dX3_goodSigns_46 rfl rfl ?_
            refine gr_iconst dX3_goodSigns_47 gk_i_2 ?_
            refine gr_iadd dX3_goodSigns_48 ?_
            refine gq_iaload hp0 dX3_goodSigns_49 h (fun x5 h => ?_)
            obtain ⟨x6, hx6, h⟩ := gn_bd h
            refine gc_SI (c_X3_isFigure hx6) my_X3_isFigure ms_X3_isFigure ml_X3_353 rfl rfl ⟨Nat.le_of_ble_eq_true rfl, Nat.le_of_ble_eq_true rfl⟩ (Nat.le_of_ble_eq_true rfl) dX3_goodSigns_50 (fun fx6 => ?_)
            refine gr_if_ne (tgt := 60) dX3_goodSigns_53 (by decide) h (fun _ h => ?_) (fun _ h => ?_)
            · refine gr_iconst dX3_goodSigns_56 gk_i_2 ?_
              refine gr_goto (tgt := 61) dX3_goodSigns_57 (by decide) ?_
              exact gq_retI dX3_goodSigns_61 rfl h
            · refine gr_iconst dX3_goodSigns_60 gk_i_3 ?_
              exact gq_retI dX3_goodSigns_61 rfl h
          · refine gr_iconst dX3_goodSigns_56 gk_i_2 ?_
            refine gr_goto (tgt := 61) dX3_goodSigns_57 (by decide) ?_
            exact gq_retI dX3_goodSigns_61 rfl h
      · refine gr_iconst dX3_goodSigns_36 gk_i_1 ?_
        exact gq_retI dX3_goodSigns_37 rfl h
  · refine gr_iconst dX3_goodSigns_16 gk_i_0 ?_
    exact gq_retI dX3_goodSigns_17 rfl h
def L_X3_faultIn_4 (n : Nat) (m : gn_M) (a0 : Nat) (a1 : Int32) (k : Int32 → Option (Int32)) : Nat → Int32 → Int32 → Option (Int32)
  | 0, _, _ => none
  | f + 1, v2, v3 => (if v3 < a1 then gn_rd m a0 60 v3 (fun x1 => (if x1 = (32 : Int32) then L_X3_faultIn_4 n m a0 a1 k f v2 (v3 + (1 : Int32)) else (if v2 = (7 : Int32) then some v3 else (f_X3_goodSigns n m a0 a1 v3).bind (fun x2 => (if x2 < (3 : Int32) then some (v3 + x2) else L_X3_faultIn_4 n m a0 a1 k f (v2 + (1 : Int32)) (v3 + (3 : Int32))))))) else k v2)
set_option maxRecDepth 100000 in
set_option maxHeartbeats 4000000 in
theorem l_X3_faultIn_4 {n : Nat} {m : gn_M} {a0 : Nat} {a1 : Int32} {k : Int32 → Option (Int32)} {v : Int32} (ha0 : gn_S[a0]? = some (.inl (0, 60))) (hk : ∀ (e2 : Int32), k e2 = some v → gn_Go RX3 cX3_faultIn 5 2 43 (some .int) none 59 [none, some (.int a1), some (.int e2), none, none] [] m (some (.int v)) m) : ∀ (f : Nat) (v2 : Int32) (v3 : Int32), L_X3_faultIn_4 n m a0 a1 k f v2 v3 = some v → gn_Go RX3 cX3_faultIn 5 2 43 (some .int) none 4 [some (.ref a0), some (.int a1), some (.int v2), some (.int v3), none] [] m (some (.int v)) m := by
  intro f
  induction f with
  | zero =>
    intro v2 v3 h
    cases h
  | succ f ih =>
    intro v2 v3 h
    rw [L_X3_faultIn_4] at h
    refine gr_iload_n dX3_faultIn_4 rfl rfl ?_
    refine gr_iload_n dX3_faultIn_5 rfl rfl ?_
    refine gr_icmp_ge (tgt := 59) dX3_faultIn_6 (by decide) h (fun _ h => ?_) (fun _ h => ?_)
    · refine gr_aload_n dX3_faultIn_9 rfl rfl ?_
      refine gr_iload_n dX3_faultIn_10 rfl rfl ?_
      refine gq_iaload ha0 dX3_faultIn_11 h (fun x1 h => ?_)
      refine gr_bipush dX3_faultIn_12 gk_b_32 ?_
      refine gr_icmp_ne (tgt := 23) dX3_faultIn_14 (by decide) h (fun _ h => ?_) (fun _ h => ?_)
      · refine gr_iinc (lv' := [some (.ref a0), some (.int a1), some (.int v2), some (.int (v3 + (1 : Int32))), none]) dX3_faultIn_17 rfl gk_i_1 (by decide) rfl ?_
        refine gr_goto (tgt := 4) dX3_faultIn_20 (by decide) ?_
        exact ih _ _ h
      · refine gr_iload_n dX3_faultIn_23 rfl rfl ?_
        refine gr_bipush dX3_faultIn_24 gk_b_7 ?_
        refine gr_icmp_ne (tgt := 31) dX3_faultIn_26 (by decide) h (fun _ h => ?_) (fun _ h => ?_)
        · refine gr_iload_n dX3_faultIn_29 rfl rfl ?_
          exact gq_retI dX3_faultIn_30 rfl h
        · refine gr_aload_n dX3_faultIn_31 rfl rfl ?_
          refine gr_iload_n dX3_faultIn_32 rfl rfl ?_
          refine gr_iload_n dX3_faultIn_33 rfl rfl ?_
          obtain ⟨x2, hx2, h⟩ := gn_bd h
          refine gc_SI (c_X3_goodSigns ha0 hx2) my_X3_goodSigns ms_X3_goodSigns ml_X3_346 rfl rfl ⟨Nat.le_of_ble_eq_true rfl, Nat.le_of_ble_eq_true rfl⟩ (Nat.le_of_ble_eq_true rfl) dX3_faultIn_34 (fun fx2 => ?_)
          refine gr_istore (lv' := [some (.ref a0), some (.int a1), some (.int v2), some (.int v3), some (.int x2)]) dX3_faultIn_37 (by decide) rfl ?_
          refine gr_iload dX3_faultIn_39 rfl ?_
          refine gr_iconst dX3_faultIn_41 gk_i_3 ?_
          refine gr_icmp_ge (tgt := 50) dX3_faultIn_42 (by decide) h (fun _ h => ?_) (fun _ h => ?_)
          · refine gr_iload_n dX3_faultIn_45 rfl rfl ?_
            refine gr_iload dX3_faultIn_46 rfl ?_
            refine gr_iadd dX3_faultIn_48 ?_
            exact gq_retI dX3_faultIn_49 rfl h
          · refine gr_iinc (lv' := [some (.ref a0), some (.int a1), some (.int (v2 + (1 : Int32))), some (.int v3), some (.int x2)]) dX3_faultIn_50 rfl gk_i_1 (by decide) rfl ?_
            refine gr_iinc (lv' := [some (.ref a0), some (.int a1), some (.int (v2 + (1 : Int32))), some (.int (v3 + (3 : Int32))), some (.int x2)]) dX3_faultIn_53 rfl gk_i_3 (by decide) rfl ?_
            refine gr_goto (tgt := 4) dX3_faultIn_56 (by decide) ?_
            refine gn_wkn [true, true, true, true, false] rfl ?_
            exact ih _ _ h
    · refine gn_wkn [false, true, true, false, false] rfl ?_
      exact hk _ h
def f_X3_faultIn (n : Nat) (m : gn_M) (p0 : Nat) (p1 : Int32) : Option (Int32) := L_X3_faultIn_4 n m p0 p1 (fun (e3 : Int32) => (if e3 < (2 : Int32) then some p1 else some (-9 : Int32))) n (0 : Int32) (0 : Int32)
set_option maxRecDepth 100000 in
set_option maxHeartbeats 4000000 in
theorem c_X3_faultIn {n : Nat} {m : gn_M} {p0 : Nat} {p1 : Int32} {v : Int32} (hp0 : gn_S[p0]? = some (.inl (0, 60))) (h : f_X3_faultIn n m p0 p1 = some v) : gn_Cl yX3_faultIn cX3_faultIn 5 (some .int) 2 43 [.ref p0, .int p1] m (some (.int v)) m := by
  rw [f_X3_faultIn] at h
  refine gn_met (lv := [some (.ref p0), some (.int p1), none, none, none]) pl_X3 rfl rfl (Nat.le_of_ble_eq_true rfl) ?_
  refine gr_iconst dX3_faultIn_0 gk_i_0 ?_
  refine gr_istore_n (lv' := [some (.ref p0), some (.int p1), some (.int (0 : Int32)), none, none]) dX3_faultIn_1 rfl (by decide) rfl ?_
  refine gr_iconst dX3_faultIn_2 gk_i_0 ?_
  refine gr_istore_n (lv' := [some (.ref p0), some (.int p1), some (.int (0 : Int32)), some (.int (0 : Int32)), none]) dX3_faultIn_3 rfl (by decide) rfl ?_
  refine l_X3_faultIn_4 hp0 (fun e3 h => ?_) _ _ _ h
  refine gr_iload_n dX3_faultIn_59 rfl rfl ?_
  refine gr_iconst dX3_faultIn_60 gk_i_2 ?_
  refine gr_icmp_ge (tgt := 68) dX3_faultIn_61 (by decide) h (fun _ h => ?_) (fun _ h => ?_)
  · refine gr_iload_n dX3_faultIn_64 rfl rfl ?_
    refine gr_goto (tgt := 70) dX3_faultIn_65 (by decide) ?_
    exact gq_retI dX3_faultIn_70 rfl h
  · refine gr_bipush dX3_faultIn_68 gk_b_m9 ?_
    exact gq_retI dX3_faultIn_70 rfl h
def f_X3_fault (n : Nat) (m : gn_M) (p0 : Int32) : Option (Int32 × gn_M) := (f_X3_refusalOfStrip_t m p0).bind (fun x1 => (if x1.1 = 0 then gn_ra 16 4 p0 (fun k2 => gn_rd x1.2 6 4 p0 (fun x3 => (f_X3_faultIn n x1.2 k2 x3).bind (fun x4 => some (x4, x1.2)))) else some (x1.1, x1.2)))
set_option maxRecDepth 100000 in
set_option maxHeartbeats 4000000 in
theorem c_X3_fault {n : Nat} {m : gn_M} {p0 : Int32} {v : Int32 × gn_M} (h : f_X3_fault n m p0 = some v) : gn_Cl yX3_fault cX3_fault 3 (some .int) 3 67 [.ref 0, .int p0] m (some (.int v.1)) v.2 := by
  rw [f_X3_fault] at h
  refine gn_met (lv := [some (.ref 0), some (.int p0), none]) pl_X3 rfl rfl (Nat.le_of_ble_eq_true rfl) ?_
  refine gr_aload_n dX3_fault_0 rfl rfl ?_
  refine gr_aload_n dX3_fault_1 rfl rfl ?_
  refine gr_getR q_0_1 fl_X3_18 dX3_fault_2 ?_
  refine gr_iload_n dX3_fault_5 rfl rfl ?_
  obtain ⟨x1, hx1, h⟩ := gn_bd h
  refine gc_VI (c_X3_refusalOfStrip_t hx1) my_X3_refusalOfStrip mv_X3_refusalOfStrip ob_0 ml_X3_88 rfl rfl ⟨Nat.le_of_ble_eq_true rfl, Nat.le_of_ble_eq_true rfl⟩ (Nat.le_of_ble_eq_true rfl) dX3_fault_6 (fun fx1 => ?_)
  refine gr_istore_n (lv' := [some (.ref 0), some (.int p0), some (.int x1.1)]) dX3_fault_9 rfl (by decide) rfl ?_
  refine gr_iload_n dX3_fault_10 rfl rfl ?_
  refine gr_if_eq (tgt := 18) dX3_fault_11 (by decide) h (fun _ h => ?_) (fun _ h => ?_)
  · refine gr_aload_n dX3_fault_18 rfl rfl ?_
    refine gr_getR q_0_1 fl_X3_18 dX3_fault_19 ?_
    refine gr_getRN q_4_0 fl_X3_81 dX3_fault_22 ?_
    refine gr_iload_n dX3_fault_25 rfl rfl ?_
    refine gq_aaload ra_5 dX3_fault_26 h (fun k2 hk2 h => ?_)
    refine gr_aload_n dX3_fault_27 rfl rfl ?_
    refine gr_getR q_0_1 fl_X3_18 dX3_fault_28 ?_
    refine gr_getRN q_4_1 fl_X3_92 dX3_fault_31 ?_
    refine gr_iload_n dX3_fault_34 rfl rfl ?_
    refine gq_iaload s_6 dX3_fault_35 h (fun x3 h => ?_)
    obtain ⟨x4, hx4, h⟩ := gn_bd h
    refine gc_SI (c_X3_faultIn hk2 hx4) my_X3_faultIn ms_X3_faultIn ml_X3_119 rfl rfl ⟨Nat.le_of_ble_eq_true rfl, Nat.le_of_ble_eq_true rfl⟩ (Nat.le_of_ble_eq_true rfl) dX3_fault_36 (fun fx4 => ?_)
    exact gq_retIM dX3_fault_39 rfl h
  · refine gr_iload_n dX3_fault_14 rfl rfl ?_
    refine gr_goto (tgt := 39) dX3_fault_15 (by decide) ?_
    exact gq_retIM dX3_fault_39 rfl h
def f_X0_startAnew (m : gn_M) : Option (gn_M) := gn_ac m 29 7 (0 : Int32) 30 7 (0 : Int32) (7 : Int32) (fun m1 => gn_pf m1 7 8 (0 : Int32) (fun m2 => gn_pf m2 7 9 (-9 : Int32) (fun m3 => gn_pf m3 7 10 (0 : Int32) (fun m4 => some m4))))
set_option maxRecDepth 100000 in
set_option maxHeartbeats 4000000 in
theorem c_X0_startAnew {m : gn_M} {v : gn_M} (h : f_X0_startAnew m = some v) : gn_Cl yX0_startAnew cX0_startAnew 1 none 1 26 [.ref 7] m none v := by
  rw [f_X0_startAnew] at h
  refine gn_met (lv := [some (.ref 7)]) pl_X0 rfl rfl (Nat.le_of_ble_eq_true rfl) ?_
  refine gr_aload_n dX0_startAnew_0 rfl rfl ?_
  refine gr_getR q_7_2 fl_X0_18 dX0_startAnew_1 ?_
  refine gr_iconst dX0_startAnew_4 gk_i_0 ?_
  refine gr_aload_n dX0_startAnew_5 rfl rfl ?_
  refine gr_getR q_7_3 fl_X0_21 dX0_startAnew_6 ?_
  refine gr_iconst dX0_startAnew_9 gk_i_0 ?_
  refine gr_bipush dX0_startAnew_10 gk_b_7 ?_
  refine gq_copy s_29 s_30 ml_X0_67 w_copy ⟨Nat.le_of_ble_eq_true rfl, Nat.le_of_ble_eq_true rfl⟩ dX0_startAnew_12 h (fun m1 h => ?_)
  refine gr_aload_n dX0_startAnew_15 rfl rfl ?_
  refine gr_iconst dX0_startAnew_16 gk_i_0 ?_
  refine gq_putI q_7_8 rfl rfl fl_X0_37 dX0_startAnew_17 h (fun m2 h => ?_)
  refine gr_aload_n dX0_startAnew_20 rfl rfl ?_
  refine gr_bipush dX0_startAnew_21 gk_b_m9 ?_
  refine gq_putI q_7_9 rfl rfl fl_X0_40 dX0_startAnew_23 h (fun m3 h => ?_)
  refine gr_aload_n dX0_startAnew_26 rfl rfl ?_
  refine gr_iconst dX0_startAnew_27 gk_i_0 ?_
  refine gq_putI q_7_10 rfl rfl fl_X0_43 dX0_startAnew_28 h (fun m4 h => ?_)
  exact gq_retVM dX0_startAnew_31 trivial h
def L_X0_gather_15 (n : Nat) (a1 : Nat) (a2 : Int32) (k : gn_M → Option (gn_M)) : Nat → Int32 → gn_M → Option (gn_M)
  | 0, _, _ => none
  | f + 1, v3, m => (if (v3 + (2 : Int32)) < a2 then (if (m.1 7 6) < (7 : Int32) then gn_rd m a1 60 v3 (fun x3 => (f_X3_kindOfLetter n m x3).bind (fun x4 => (if x4 = (-9 : Int32) then L_X0_gather_15 n a1 a2 k f (v3 + (1 : Int32)) m else gn_wr m 27 7 (m.1 7 6) x4 (fun m5 => gn_rd m5 a1 60 (v3 + (1 : Int32)) (fun x6 => gn_wr m5 28 7 (m5.1 7 6) (x6 - (48 : Int32)) (fun m7 => gn_rd m7 a1 60 (v3 + (2 : Int32)) (fun x8 => gn_wr m7 29 7 (m7.1 7 6) ((1 : Int32) <<< ((x8 - (48 : Int32)) &&& 31)) (fun m9 => gn_rd m9 31 6 x4 (fun x10 => gn_wr m9 31 6 x4 (x10 ||| ((1 : Int32) <<< ((m9.1 7 6) &&& 31))) (fun m11 => gn_pf m11 7 6 ((m11.1 7 6) + (1 : Int32)) (fun m12 => L_X0_gather_15 n a1 a2 k f (v3 + (3 : Int32)) m12))))))))))) else k m) else k m)
set_option maxRecDepth 100000 in
set_option maxHeartbeats 4000000 in
theorem l_X0_gather_15 {n : Nat} {a1 : Nat} {a2 : Int32} {k : gn_M → Option (gn_M)} {v : gn_M} (ha1 : gn_S[a1]? = some (.inl (0, 60))) (hk : ∀ (m1 : gn_M), k m1 = some v → gn_Go RX0 cX0_gather 5 2 46 none none 131 [some (.ref 7), none, none, none, none] [] m1 none v) : ∀ (f : Nat) (v3 : Int32) (m : gn_M), L_X0_gather_15 n a1 a2 k f v3 m = some v → gn_Go RX0 cX0_gather 5 2 46 none none 15 [some (.ref 7), some (.ref a1), some (.int a2), some (.int v3), none] [] m none v := by
  intro f
  induction f with
  | zero =>
    intro v3 m h
    cases h
  | succ f ih =>
    intro v3 m h
    rw [L_X0_gather_15] at h
    refine gr_iload_n dX0_gather_15 rfl rfl ?_
    refine gr_iconst dX0_gather_16 gk_i_2 ?_
    refine gr_iadd dX0_gather_17 ?_
    refine gr_iload_n dX0_gather_18 rfl rfl ?_
    refine gr_icmp_ge (tgt := 131) dX0_gather_19 (by decide) h (fun _ h => ?_) (fun _ h => ?_)
    · refine gr_aload_n dX0_gather_22 rfl rfl ?_
      refine gr_getI q_7_6 fl_X0_30 dX0_gather_23 ?_
      refine gr_bipush dX0_gather_26 gk_b_7 ?_
      refine gr_icmp_ge (tgt := 131) dX0_gather_28 (by decide) h (fun _ h => ?_) (fun _ h => ?_)
      · refine gr_aload_n dX0_gather_31 rfl rfl ?_
        refine gr_iload_n dX0_gather_32 rfl rfl ?_
        refine gq_iaload ha1 dX0_gather_33 h (fun x3 h => ?_)
        obtain ⟨x4, hx4, h⟩ := gn_bd h
        refine gc_SNI (c_X3_kindOfLetter hx4) my_X3_kindOfLetter ms_X3_kindOfLetter ml_X0_60 rfl rfl ⟨Nat.le_of_ble_eq_true rfl, Nat.le_of_ble_eq_true rfl⟩ (Nat.le_of_ble_eq_true rfl) dX0_gather_34 (fun fx4 => ?_)
        refine gr_istore (lv' := [some (.ref 7), some (.ref a1), some (.int a2), some (.int v3), some (.int x4)]) dX0_gather_37 (by decide) rfl ?_
        refine gr_iload dX0_gather_39 rfl ?_
        refine gr_bipush dX0_gather_41 gk_b_m9 ?_
        refine gr_icmp_ne (tgt := 52) dX0_gather_43 (by decide) h (fun _ h => ?_) (fun _ h => ?_)
        · refine gr_iinc (lv' := [some (.ref 7), some (.ref a1), some (.int a2), some (.int (v3 + (1 : Int32))), some (.int x4)]) dX0_gather_46 rfl gk_i_1 (by decide) rfl ?_
          refine gr_goto (tgt := 128) dX0_gather_49 (by decide) ?_
          refine gr_goto (tgt := 15) dX0_gather_128 (by decide) ?_
          refine gn_wkn [true, true, true, true, false] rfl ?_
          exact ih _ _ h
        · refine gr_aload_n dX0_gather_52 rfl rfl ?_
          refine gr_getR q_7_0 fl_X0_9 dX0_gather_53 ?_
          refine gr_aload_n dX0_gather_56 rfl rfl ?_
          refine gr_getI q_7_6 fl_X0_30 dX0_gather_57 ?_
          refine gr_iload dX0_gather_60 rfl ?_
          refine gq_iastore s_27 dX0_gather_62 h (fun m5 h => ?_)
          refine gr_aload_n dX0_gather_63 rfl rfl ?_
          refine gr_getR q_7_1 fl_X0_15 dX0_gather_64 ?_
          refine gr_aload_n dX0_gather_67 rfl rfl ?_
          refine gr_getI q_7_6 fl_X0_30 dX0_gather_68 ?_
          refine gr_aload_n dX0_gather_71 rfl rfl ?_
          refine gr_iload_n dX0_gather_72 rfl rfl ?_
          refine gr_iconst dX0_gather_73 gk_i_1 ?_
          refine gr_iadd dX0_gather_74 ?_
          refine gq_iaload ha1 dX0_gather_75 h (fun x6 h => ?_)
          refine gr_bipush dX0_gather_76 gk_b_48 ?_
          refine gr_isub dX0_gather_78 ?_
          refine gq_iastore s_28 dX0_gather_79 h (fun m7 h => ?_)
          refine gr_aload_n dX0_gather_80 rfl rfl ?_
          refine gr_getR q_7_2 fl_X0_18 dX0_gather_81 ?_
          refine gr_aload_n dX0_gather_84 rfl rfl ?_
          refine gr_getI q_7_6 fl_X0_30 dX0_gather_85 ?_
          refine gr_iconst dX0_gather_88 gk_i_1 ?_
          refine gr_aload_n dX0_gather_89 rfl rfl ?_
          refine gr_iload_n dX0_gather_90 rfl rfl ?_
          refine gr_iconst dX0_gather_91 gk_i_2 ?_
          refine gr_iadd dX0_gather_92 ?_
          refine gq_iaload ha1 dX0_gather_93 h (fun x8 h => ?_)
          refine gr_bipush dX0_gather_94 gk_b_48 ?_
          refine gr_isub dX0_gather_96 ?_
          refine gr_ishl dX0_gather_97 ?_
          refine gq_iastore s_29 dX0_gather_98 h (fun m9 h => ?_)
          refine gr_aload_n dX0_gather_99 rfl rfl ?_
          refine gr_getR q_7_4 fl_X0_24 dX0_gather_100 ?_
          refine gr_iload dX0_gather_103 rfl ?_
          refine gr_dup2 dX0_gather_105 rfl rfl ?_
          refine gq_iaload s_31 dX0_gather_106 h (fun x10 h => ?_)
          refine gr_iconst dX0_gather_107 gk_i_1 ?_
          refine gr_aload_n dX0_gather_108 rfl rfl ?_
          refine gr_getI q_7_6 fl_X0_30 dX0_gather_109 ?_
          refine gr_ishl dX0_gather_112 ?_
          refine gr_ior dX0_gather_113 ?_
          refine gq_iastore s_31 dX0_gather_114 h (fun m11 h => ?_)
          refine gr_aload_n dX0_gather_115 rfl rfl ?_
          refine gr_dup dX0_gather_116 rfl ?_
          refine gr_getI q_7_6 fl_X0_30 dX0_gather_117 ?_
          refine gr_iconst dX0_gather_120 gk_i_1 ?_
          refine gr_iadd dX0_gather_121 ?_
          refine gq_putI q_7_6 rfl rfl fl_X0_30 dX0_gather_122 h (fun m12 h => ?_)
          refine gr_iinc (lv' := [some (.ref 7), some (.ref a1), some (.int a2), some (.int (v3 + (3 : Int32))), some (.int x4)]) dX0_gather_125 rfl gk_i_3 (by decide) rfl ?_
          refine gr_goto (tgt := 15) dX0_gather_128 (by decide) ?_
          refine gn_wkn [true, true, true, true, false] rfl ?_
          exact ih _ _ h
      · refine gn_wkn [true, false, false, false, false] rfl ?_
        exact hk _ h
    · refine gn_wkn [true, false, false, false, false] rfl ?_
      exact hk _ h
def L_X0_gather_134 (n : Nat) (k : gn_M → Option (gn_M)) : Nat → Int32 → gn_M → Option (gn_M)
  | 0, _, _ => none
  | f + 1, v4, m => (if v4 < (m.1 7 6) then gn_rd m 29 7 v4 (fun x14 => gn_wr m 29 7 v4 (x14 &&& ((((1 : Int32) <<< ((m.1 7 6) &&& 31)) - (1 : Int32)) &&& (((1 : Int32) <<< (v4 &&& 31)) ^^^ (-1 : Int32)))) (fun m15 => L_X0_gather_134 n k f (v4 + (1 : Int32)) m15)) else k m)
set_option maxRecDepth 100000 in
set_option maxHeartbeats 4000000 in
theorem l_X0_gather_134 {n : Nat} {k : gn_M → Option (gn_M)} {v : gn_M} (hk : ∀ (m1 : gn_M), k m1 = some v → gn_Go RX0 cX0_gather 5 2 46 none none 174 [some (.ref 7), none, none, none, none] [] m1 none v) : ∀ (f : Nat) (v4 : Int32) (m : gn_M), L_X0_gather_134 n k f v4 m = some v → gn_Go RX0 cX0_gather 5 2 46 none none 134 [some (.ref 7), none, none, none, some (.int v4)] [] m none v := by
  intro f
  induction f with
  | zero =>
    intro v4 m h
    cases h
  | succ f ih =>
    intro v4 m h
    rw [L_X0_gather_134] at h
    refine gr_iload dX0_gather_134 rfl ?_
    refine gr_aload_n dX0_gather_136 rfl rfl ?_
    refine gr_getI q_7_6 fl_X0_30 dX0_gather_137 ?_
    refine gr_icmp_ge (tgt := 174) dX0_gather_140 (by decide) h (fun _ h => ?_) (fun _ h => ?_)
    · refine gr_aload_n dX0_gather_143 rfl rfl ?_
      refine gr_getR q_7_2 fl_X0_18 dX0_gather_144 ?_
      refine gr_iload dX0_gather_147 rfl ?_
      refine gr_dup2 dX0_gather_149 rfl rfl ?_
      refine gq_iaload s_29 dX0_gather_150 h (fun x14 h => ?_)
      refine gr_iconst dX0_gather_151 gk_i_1 ?_
      refine gr_aload_n dX0_gather_152 rfl rfl ?_
      refine gr_getI q_7_6 fl_X0_30 dX0_gather_153 ?_
      refine gr_ishl dX0_gather_156 ?_
      refine gr_iconst dX0_gather_157 gk_i_1 ?_
      refine gr_isub dX0_gather_158 ?_
      refine gr_iconst dX0_gather_159 gk_i_1 ?_
      refine gr_iload dX0_gather_160 rfl ?_
      refine gr_ishl dX0_gather_162 ?_
      refine gr_iconst dX0_gather_163 gk_i_m1 ?_
      refine gr_ixor dX0_gather_164 ?_
      refine gr_iand dX0_gather_165 ?_
      refine gr_iand dX0_gather_166 ?_
      refine gq_iastore s_29 dX0_gather_167 h (fun m15 h => ?_)
      refine gr_iinc (lv' := [some (.ref 7), none, none, none, some (.int (v4 + (1 : Int32)))]) dX0_gather_168 rfl gk_i_1 (by decide) rfl ?_
      refine gr_goto (tgt := 134) dX0_gather_171 (by decide) ?_
      exact ih _ _ h
    · refine gn_wkn [true, false, false, false, false] rfl ?_
      exact hk _ h
def f_X0_gather (n : Nat) (m : gn_M) (p0 : Nat) (p1 : Int32) : Option (gn_M) := gn_pf m 7 6 (0 : Int32) (fun m1 => (f_J7_fill_53178 n m1 31 6 (0 : Int32)).bind (fun x2 => L_X0_gather_15 n p0 p1 (fun (m13 : gn_M) => L_X0_gather_134 n (fun (m16 : gn_M) => gn_pf m16 7 7 (0 : Int32) (fun m17 => (f_X0_startAnew m17).bind (fun x18 => some x18))) n (0 : Int32) m13) n (0 : Int32) x2))
set_option maxRecDepth 100000 in
set_option maxHeartbeats 4000000 in
theorem c_X0_gather {n : Nat} {m : gn_M} {p0 : Nat} {p1 : Int32} {v : gn_M} (hp0 : gn_S[p0]? = some (.inl (0, 60))) (h : f_X0_gather n m p0 p1 = some v) : gn_Cl yX0_gather cX0_gather 5 none 2 46 [.ref 7, .ref p0, .int p1] m none v := by
  rw [f_X0_gather] at h
  refine gn_met (lv := [some (.ref 7), some (.ref p0), some (.int p1), none, none]) pl_X0 rfl rfl (Nat.le_of_ble_eq_true rfl) ?_
  refine gr_aload_n dX0_gather_0 rfl rfl ?_
  refine gr_iconst dX0_gather_1 gk_i_0 ?_
  refine gq_putI q_7_6 rfl rfl fl_X0_30 dX0_gather_2 h (fun m1 h => ?_)
  refine gr_aload_n dX0_gather_5 rfl rfl ?_
  refine gr_getR q_7_4 fl_X0_24 dX0_gather_6 ?_
  refine gr_iconst dX0_gather_9 gk_i_0 ?_
  obtain ⟨x2, hx2, h⟩ := gn_bd h
  refine gc_S0 (c_J7_fill_53178 s_31 hx2) my_J7_fill_53178 ms_J7_fill_53178 ml_X0_54 rfl rfl ⟨Nat.le_of_ble_eq_true rfl, Nat.le_of_ble_eq_true rfl⟩ (Nat.le_of_ble_eq_true rfl) dX0_gather_10 (fun fx2 => ?_)
  refine gr_iconst dX0_gather_13 gk_i_0 ?_
  refine gr_istore_n (lv' := [some (.ref 7), some (.ref p0), some (.int p1), some (.int (0 : Int32)), none]) dX0_gather_14 rfl (by decide) rfl ?_
  refine l_X0_gather_15 hp0 (fun m13 h => ?_) _ _ _ h
  refine gr_iconst dX0_gather_131 gk_i_0 ?_
  refine gr_istore (lv' := [some (.ref 7), none, none, none, some (.int (0 : Int32))]) dX0_gather_132 (by decide) rfl ?_
  refine l_X0_gather_134 (fun m16 h => ?_) _ _ _ h
  refine gr_aload_n dX0_gather_174 rfl rfl ?_
  refine gr_iconst dX0_gather_175 gk_i_0 ?_
  refine gq_putI q_7_7 rfl rfl fl_X0_34 dX0_gather_176 h (fun m17 h => ?_)
  refine gr_aload_n dX0_gather_179 rfl rfl ?_
  obtain ⟨x18, hx18, h⟩ := gn_bd h
  refine gc_V0 (c_X0_startAnew hx18) my_X0_startAnew mv_X0_startAnew ob_7 ml_X0_64 rfl rfl ⟨Nat.le_of_ble_eq_true rfl, Nat.le_of_ble_eq_true rfl⟩ (Nat.le_of_ble_eq_true rfl) dX0_gather_180 (fun fx18 => ?_)
  exact gq_retVM dX0_gather_183 trivial h
def f_X3_gate (n : Nat) (m : gn_M) (p0 : Int32) : Option (Int32 × gn_M) := (f_X3_refusalOfStrip_t m p0).bind (fun x1 => (if x1.1 = 0 then gn_ra 16 4 p0 (fun k2 => gn_rd x1.2 6 4 p0 (fun x3 => (f_X3_faultIn n x1.2 k2 x3).bind (fun x4 => (if x4 = (-9 : Int32) then gn_ra 16 4 p0 (fun k5 => gn_rd x1.2 6 4 p0 (fun x6 => (f_X0_gather n x1.2 k5 x6).bind (fun x7 => (f_J7_fill_53178 n x7 23 3 (-1 : Int32)).bind (fun x8 => some ((x8.1 7 6), x8))))) else some ((-4 : Int32), x1.2))))) else some (x1.1, x1.2)))
set_option maxRecDepth 100000 in
set_option maxHeartbeats 4000000 in
theorem c_X3_gate {n : Nat} {m : gn_M} {p0 : Int32} {v : Int32 × gn_M} (h : f_X3_gate n m p0 = some v) : gn_Cl yX3_gate cX3_gate 3 (some .int) 3 70 [.ref 0, .int p0] m (some (.int v.1)) v.2 := by
  rw [f_X3_gate] at h
  refine gn_met (lv := [some (.ref 0), some (.int p0), none]) pl_X3 rfl rfl (Nat.le_of_ble_eq_true rfl) ?_
  refine gr_aload_n dX3_gate_0 rfl rfl ?_
  refine gr_aload_n dX3_gate_1 rfl rfl ?_
  refine gr_getR q_0_1 fl_X3_18 dX3_gate_2 ?_
  refine gr_iload_n dX3_gate_5 rfl rfl ?_
  obtain ⟨x1, hx1, h⟩ := gn_bd h
  refine gc_VI (c_X3_refusalOfStrip_t hx1) my_X3_refusalOfStrip mv_X3_refusalOfStrip ob_0 ml_X3_88 rfl rfl ⟨Nat.le_of_ble_eq_true rfl, Nat.le_of_ble_eq_true rfl⟩ (Nat.le_of_ble_eq_true rfl) dX3_gate_6 (fun fx1 => ?_)
  refine gr_istore_n (lv' := [some (.ref 0), some (.int p0), some (.int x1.1)]) dX3_gate_9 rfl (by decide) rfl ?_
  refine gr_iload_n dX3_gate_10 rfl rfl ?_
  refine gr_if_eq (tgt := 16) dX3_gate_11 (by decide) h (fun _ h => ?_) (fun _ h => ?_)
  · refine gr_aload_n dX3_gate_16 rfl rfl ?_
    refine gr_getR q_0_1 fl_X3_18 dX3_gate_17 ?_
    refine gr_getRN q_4_0 fl_X3_81 dX3_gate_20 ?_
    refine gr_iload_n dX3_gate_23 rfl rfl ?_
    refine gq_aaload ra_5 dX3_gate_24 h (fun k2 hk2 h => ?_)
    refine gr_aload_n dX3_gate_25 rfl rfl ?_
    refine gr_getR q_0_1 fl_X3_18 dX3_gate_26 ?_
    refine gr_getRN q_4_1 fl_X3_92 dX3_gate_29 ?_
    refine gr_iload_n dX3_gate_32 rfl rfl ?_
    refine gq_iaload s_6 dX3_gate_33 h (fun x3 h => ?_)
    obtain ⟨x4, hx4, h⟩ := gn_bd h
    refine gc_SI (c_X3_faultIn hk2 hx4) my_X3_faultIn ms_X3_faultIn ml_X3_119 rfl rfl ⟨Nat.le_of_ble_eq_true rfl, Nat.le_of_ble_eq_true rfl⟩ (Nat.le_of_ble_eq_true rfl) dX3_gate_34 (fun fx4 => ?_)
    refine gr_bipush dX3_gate_37 gk_b_m9 ?_
    refine gr_icmp_eq (tgt := 45) dX3_gate_39 (by decide) h (fun _ h => ?_) (fun _ h => ?_)
    · refine gr_aload_n dX3_gate_45 rfl rfl ?_
      refine gr_getR q_0_2 fl_X3_24 dX3_gate_46 ?_
      refine gr_aload_n dX3_gate_49 rfl rfl ?_
      refine gr_getR q_0_1 fl_X3_18 dX3_gate_50 ?_
      refine gr_getRN q_4_0 fl_X3_81 dX3_gate_53 ?_
      refine gr_iload_n dX3_gate_56 rfl rfl ?_
      refine gq_aaload ra_5 dX3_gate_57 h (fun k5 hk5 h => ?_)
      refine gr_aload_n dX3_gate_58 rfl rfl ?_
      refine gr_getR q_0_1 fl_X3_18 dX3_gate_59 ?_
      refine gr_getRN q_4_1 fl_X3_92 dX3_gate_62 ?_
      refine gr_iload_n dX3_gate_65 rfl rfl ?_
      refine gq_iaload s_6 dX3_gate_66 h (fun x6 h => ?_)
      obtain ⟨x7, hx7, h⟩ := gn_bd h
      refine gc_VN0 (c_X0_gather hk5 hx7) my_X0_gather mv_X0_gather ob_7 ml_X3_123 rfl rfl ⟨Nat.le_of_ble_eq_true rfl, Nat.le_of_ble_eq_true rfl⟩ (Nat.le_of_ble_eq_true rfl) dX3_gate_67 (fun fx7 => ?_)
      refine gr_aload_n dX3_gate_70 rfl rfl ?_
      refine gr_getR q_0_5 fl_X3_40 dX3_gate_71 ?_
      refine gr_iconst dX3_gate_74 gk_i_m1 ?_
      obtain ⟨x8, hx8, h⟩ := gn_bd h
      refine gc_S0 (c_J7_fill_53178 s_23 hx8) my_J7_fill_53178 ms_J7_fill_53178 ml_X3_67 rfl rfl ⟨Nat.le_of_ble_eq_true rfl, Nat.le_of_ble_eq_true rfl⟩ (Nat.le_of_ble_eq_true rfl) dX3_gate_75 (fun fx8 => ?_)
      refine gr_aload_n dX3_gate_78 rfl rfl ?_
      refine gr_getR q_0_2 fl_X3_24 dX3_gate_79 ?_
      refine gr_getIN q_7_6 fl_X3_126 dX3_gate_82 ?_
      exact gq_retIM dX3_gate_85 rfl h
    · refine gr_bipush dX3_gate_42 gk_b_m4 ?_
      exact gq_retIM dX3_gate_44 rfl h
  · refine gr_iload_n dX3_gate_14 rfl rfl ?_
    exact gq_retIM dX3_gate_15 rfl h
def f_X0_numbers (m : gn_M) (p0 : Int32) : Option (Int32) := (if p0 < 0 then some (0 : Int32) else (if p0 < (m.1 7 6) then some (1 : Int32) else some (0 : Int32)))
set_option maxRecDepth 100000 in
set_option maxHeartbeats 4000000 in
theorem c_X0_numbers {m : gn_M} {p0 : Int32} {v : Int32} (h : f_X0_numbers m p0 = some v) : gn_Cl yX0_numbers cX0_numbers 2 (some .boolean) 0 0 [.ref 7, .int p0] m (some (.int v)) m := by
  rw [f_X0_numbers] at h
  refine gn_met (lv := [some (.ref 7), some (.int p0)]) pl_X0 rfl rfl (Nat.le_of_ble_eq_true rfl) ?_
  refine gr_iload_n dX0_numbers_0 rfl rfl ?_
  refine gr_if_lt (tgt := 16) dX0_numbers_1 (by decide) h (fun _ h => ?_) (fun _ h => ?_)
  · refine gr_iconst dX0_numbers_16 gk_i_0 ?_
    exact gq_retI dX0_numbers_17 rfl h
  · refine gr_iload_n dX0_numbers_4 rfl rfl ?_
    refine gr_aload_n dX0_numbers_5 rfl rfl ?_
    refine gr_getI q_7_6 fl_X0_30 dX0_numbers_6 ?_
    refine gr_icmp_ge (tgt := 16) dX0_numbers_9 (by decide) h (fun _ h => ?_) (fun _ h => ?_)
    · refine gr_iconst dX0_numbers_12 gk_i_1 ?_
      refine gr_goto (tgt := 17) dX0_numbers_13 (by decide) ?_
      exact gq_retI dX0_numbers_17 rfl h
    · refine gr_iconst dX0_numbers_16 gk_i_0 ?_
      exact gq_retI dX0_numbers_17 rfl h
def f_X3_tellingAs (p0 : Int32) (p1 : Int32) (p2 : Int32) : Option (Int32) := (if p0 = 3 then some (0 : Int32) else (if p0 = 4 then some (p2 ||| ((1 : Int32) <<< (p1 &&& 31))) else (if p0 = 5 then some (p2 &&& (((1 : Int32) <<< (p1 &&& 31)) ^^^ (-1 : Int32))) else some ((1 : Int32) <<< (p1 &&& 31)))))
set_option maxRecDepth 100000 in
set_option maxHeartbeats 4000000 in
theorem c_X3_tellingAs {m : gn_M} {p0 : Int32} {p1 : Int32} {p2 : Int32} {v : Int32} (h : f_X3_tellingAs p0 p1 p2 = some v) : gn_Cl yX3_tellingAs cX3_tellingAs 4 (some .int) 0 0 [.int p0, .int p1, .int p2] m (some (.int v)) m := by
  rw [f_X3_tellingAs] at h
  refine gn_met (lv := [some (.int p0), some (.int p1), some (.int p2), none]) pl_X3 rfl rfl (Nat.le_of_ble_eq_true rfl) ?_
  refine gr_iconst dX3_tellingAs_0 gk_i_1 ?_
  refine gr_iload_n dX3_tellingAs_1 rfl rfl ?_
  refine gr_ishl dX3_tellingAs_2 ?_
  refine gr_istore_n (lv' := [some (.int p0), some (.int p1), some (.int p2), some (.int ((1 : Int32) <<< (p1 &&& 31)))]) dX3_tellingAs_3 rfl (by decide) rfl ?_
  refine gr_iload_n dX3_tellingAs_4 rfl rfl ?_
  refine gn_sw h (fun hs0 h => ?_) (fun hs0 h => ?_)
  · refine gr_tsIn (tgt := 32) dX3_tellingAs_5 hs0 (by decide) (by decide) rfl (by decide) ?_
    refine gr_iconst dX3_tellingAs_32 gk_i_0 ?_
    exact gq_retI dX3_tellingAs_33 rfl h
  refine gn_sw h (fun hs1 h => ?_) (fun hs1 h => ?_)
  · refine gr_tsIn (tgt := 34) dX3_tellingAs_5 hs1 (by decide) (by decide) rfl (by decide) ?_
    refine gr_iload_n dX3_tellingAs_34 rfl rfl ?_
    refine gr_iload_n dX3_tellingAs_35 rfl rfl ?_
    refine gr_ior dX3_tellingAs_36 ?_
    exact gq_retI dX3_tellingAs_37 rfl h
  refine gn_sw h (fun hs2 h => ?_) (fun hs2 h => ?_)
  · refine gr_tsIn (tgt := 38) dX3_tellingAs_5 hs2 (by decide) (by decide) rfl (by decide) ?_
    refine gr_iload_n dX3_tellingAs_38 rfl rfl ?_
    refine gr_iload_n dX3_tellingAs_39 rfl rfl ?_
    refine gr_iconst dX3_tellingAs_40 gk_i_m1 ?_
    refine gr_ixor dX3_tellingAs_41 ?_
    refine gr_iand dX3_tellingAs_42 ?_
    exact gq_retI dX3_tellingAs_43 rfl h
  refine gr_tsOut (tgt := 44) dX3_tellingAs_5 (by have := gn_out (x := p0) 3 3 (fun j hj => match j, hj with | 0, _ => hs0 | 1, _ => hs1 | 2, _ => hs2 | j + 3, hj => absurd hj (by omega)); omega) (by decide) ?_
  refine gr_iload_n dX3_tellingAs_44 rfl rfl ?_
  exact gq_retI dX3_tellingAs_45 rfl h
def f_X0_tellingOf (m : gn_M) (p0 : Int32) : Option (Int32) := gn_rd m 27 7 p0 (fun x1 => gn_rd m 30 7 p0 (fun x2 => (f_X3_tellingAs x1 p0 x2).bind (fun x3 => some x3)))
set_option maxRecDepth 100000 in
set_option maxHeartbeats 4000000 in
theorem c_X0_tellingOf {m : gn_M} {p0 : Int32} {v : Int32} (h : f_X0_tellingOf m p0 = some v) : gn_Cl yX0_tellingOf cX0_tellingOf 2 (some .int) 1 23 [.ref 7, .int p0] m (some (.int v)) m := by
  rw [f_X0_tellingOf] at h
  refine gn_met (lv := [some (.ref 7), some (.int p0)]) pl_X0 rfl rfl (Nat.le_of_ble_eq_true rfl) ?_
  refine gr_aload_n dX0_tellingOf_0 rfl rfl ?_
  refine gr_getR q_7_0 fl_X0_9 dX0_tellingOf_1 ?_
  refine gr_iload_n dX0_tellingOf_4 rfl rfl ?_
  refine gq_iaload s_27 dX0_tellingOf_5 h (fun x1 h => ?_)
  refine gr_iload_n dX0_tellingOf_6 rfl rfl ?_
  refine gr_aload_n dX0_tellingOf_7 rfl rfl ?_
  refine gr_getR q_7_3 fl_X0_21 dX0_tellingOf_8 ?_
  refine gr_iload_n dX0_tellingOf_11 rfl rfl ?_
  refine gq_iaload s_30 dX0_tellingOf_12 h (fun x2 h => ?_)
  obtain ⟨x3, hx3, h⟩ := gn_bd h
  refine gc_SNI (c_X3_tellingAs hx3) my_X3_tellingAs ms_X3_tellingAs ml_X0_87 rfl rfl ⟨Nat.le_of_ble_eq_true rfl, Nat.le_of_ble_eq_true rfl⟩ (Nat.le_of_ble_eq_true rfl) dX0_tellingOf_13 (fun fx3 => ?_)
  exact gq_retI dX0_tellingOf_16 rfl h
def f_X0_naming (m : gn_M) (p0 : Int32) (p1 : Nat) : Option (Int32) := gn_rd m p1 7 p0 (fun x1 => gn_rd m 31 6 (1 : Int32) (fun x2 => gn_rd m 31 6 (2 : Int32) (fun x3 => (if (((x1 ||| ((1 : Int32) <<< (p0 &&& 31))) ||| x2) &&& x3) = 0 then some ((x1 ||| ((1 : Int32) <<< (p0 &&& 31))) ||| x2) else gn_rd m 31 6 (2 : Int32) (fun x4 => some (((x1 ||| ((1 : Int32) <<< (p0 &&& 31))) ||| x2) ||| x4))))))
set_option maxRecDepth 100000 in
set_option maxHeartbeats 4000000 in
theorem c_X0_naming {m : gn_M} {p0 : Int32} {p1 : Nat} {v : Int32} (hp1 : gn_S[p1]? = some (.inl (0, 7))) (h : f_X0_naming m p0 p1 = some v) : gn_Cl yX0_naming cX0_naming 4 (some .int) 0 0 [.ref 7, .int p0, .ref p1] m (some (.int v)) m := by
  rw [f_X0_naming] at h
  refine gn_met (lv := [some (.ref 7), some (.int p0), some (.ref p1), none]) pl_X0 rfl rfl (Nat.le_of_ble_eq_true rfl) ?_
  refine gr_aload_n dX0_naming_0 rfl rfl ?_
  refine gr_iload_n dX0_naming_1 rfl rfl ?_
  refine gq_iaload hp1 dX0_naming_2 h (fun x1 h => ?_)
  refine gr_iconst dX0_naming_3 gk_i_1 ?_
  refine gr_iload_n dX0_naming_4 rfl rfl ?_
  refine gr_ishl dX0_naming_5 ?_
  refine gr_ior dX0_naming_6 ?_
  refine gr_aload_n dX0_naming_7 rfl rfl ?_
  refine gr_getR q_7_4 fl_X0_24 dX0_naming_8 ?_
  refine gr_iconst dX0_naming_11 gk_i_1 ?_
  refine gq_iaload s_31 dX0_naming_12 h (fun x2 h => ?_)
  refine gr_ior dX0_naming_13 ?_
  refine gr_istore_n (lv' := [some (.ref 7), some (.int p0), some (.ref p1), some (.int ((x1 ||| ((1 : Int32) <<< (p0 &&& 31))) ||| x2))]) dX0_naming_14 rfl (by decide) rfl ?_
  refine gr_iload_n dX0_naming_15 rfl rfl ?_
  refine gr_aload_n dX0_naming_16 rfl rfl ?_
  refine gr_getR q_7_4 fl_X0_24 dX0_naming_17 ?_
  refine gr_iconst dX0_naming_20 gk_i_2 ?_
  refine gq_iaload s_31 dX0_naming_21 h (fun x3 h => ?_)
  refine gr_iand dX0_naming_22 ?_
  refine gr_if_eq (tgt := 37) dX0_naming_23 (by decide) h (fun _ h => ?_) (fun _ h => ?_)
  · refine gr_iload_n dX0_naming_37 rfl rfl ?_
    exact gq_retI dX0_naming_38 rfl h
  · refine gr_iload_n dX0_naming_26 rfl rfl ?_
    refine gr_aload_n dX0_naming_27 rfl rfl ?_
    refine gr_getR q_7_4 fl_X0_24 dX0_naming_28 ?_
    refine gr_iconst dX0_naming_31 gk_i_2 ?_
    refine gq_iaload s_31 dX0_naming_32 h (fun x4 h => ?_)
    refine gr_ior dX0_naming_33 ?_
    refine gr_goto (tgt := 38) dX0_naming_34 (by decide) ?_
    exact gq_retI dX0_naming_38 rfl h
def f_X3_isIn (p0 : Int32) (p1 : Int32) : Option (Int32) := (if ((p0 >>> (p1 &&& 31)) &&& (1 : Int32)) = 0 then some (0 : Int32) else some (1 : Int32))
set_option maxRecDepth 100000 in
set_option maxHeartbeats 4000000 in
theorem c_X3_isIn {m : gn_M} {p0 : Int32} {p1 : Int32} {v : Int32} (h : f_X3_isIn p0 p1 = some v) : gn_Cl yX3_isIn cX3_isIn 2 (some .boolean) 0 0 [.int p0, .int p1] m (some (.int v)) m := by
  rw [f_X3_isIn] at h
  refine gn_met (lv := [some (.int p0), some (.int p1)]) pl_X3 rfl rfl (Nat.le_of_ble_eq_true rfl) ?_
  refine gr_iload_n dX3_isIn_0 rfl rfl ?_
  refine gr_iload_n dX3_isIn_1 rfl rfl ?_
  refine gr_ishr dX3_isIn_2 ?_
  refine gr_iconst dX3_isIn_3 gk_i_1 ?_
  refine gr_iand dX3_isIn_4 ?_
  refine gr_if_eq (tgt := 12) dX3_isIn_5 (by decide) h (fun _ h => ?_) (fun _ h => ?_)
  · refine gr_iconst dX3_isIn_12 gk_i_0 ?_
    exact gq_retI dX3_isIn_13 rfl h
  · refine gr_iconst dX3_isIn_8 gk_i_1 ?_
    refine gr_goto (tgt := 13) dX3_isIn_9 (by decide) ?_
    exact gq_retI dX3_isIn_13 rfl h
def f_X0_waits (m : gn_M) (p0 : Int32) : Option (Int32) := (f_X3_isIn (m.1 7 8) p0).bind (fun x1 => (if x1 = 0 then some (1 : Int32) else some (0 : Int32)))
set_option maxRecDepth 100000 in
set_option maxHeartbeats 4000000 in
theorem c_X0_waits {m : gn_M} {p0 : Int32} {v : Int32} (h : f_X0_waits m p0 = some v) : gn_Cl yX0_waits cX0_waits 2 (some .boolean) 1 21 [.ref 7, .int p0] m (some (.int v)) m := by
  rw [f_X0_waits] at h
  refine gn_met (lv := [some (.ref 7), some (.int p0)]) pl_X0 rfl rfl (Nat.le_of_ble_eq_true rfl) ?_
  refine gr_aload_n dX0_waits_0 rfl rfl ?_
  refine gr_getI q_7_8 fl_X0_37 dX0_waits_1 ?_
  refine gr_iload_n dX0_waits_4 rfl rfl ?_
  obtain ⟨x1, hx1, h⟩ := gn_bd h
  refine gc_SNI (c_X3_isIn hx1) my_X3_isIn ms_X3_isIn ml_X0_46 rfl rfl ⟨Nat.le_of_ble_eq_true rfl, Nat.le_of_ble_eq_true rfl⟩ (Nat.le_of_ble_eq_true rfl) dX0_waits_5 (fun fx1 => ?_)
  refine gr_if_ne (tgt := 15) dX0_waits_8 (by decide) h (fun _ h => ?_) (fun _ h => ?_)
  · refine gr_iconst dX0_waits_11 gk_i_1 ?_
    refine gr_goto (tgt := 16) dX0_waits_12 (by decide) ?_
    exact gq_retI dX0_waits_16 rfl h
  · refine gr_iconst dX0_waits_15 gk_i_0 ?_
    exact gq_retI dX0_waits_16 rfl h
def f_X0_opensTo (m : gn_M) (p0 : Int32) : Option (Int32) := (f_X0_waits m p0).bind (fun x1 => (if x1 = 0 then some (0 : Int32) else (if (m.1 7 9) = (-9 : Int32) then some (1 : Int32) else (f_X0_naming m p0 30).bind (fun x2 => (f_X3_isIn x2 (m.1 7 9)).bind (fun x3 => (if x3 = 0 then some (0 : Int32) else some (1 : Int32)))))))
set_option maxRecDepth 100000 in
set_option maxHeartbeats 4000000 in
theorem c_X0_opensTo {m : gn_M} {p0 : Int32} {v : Int32} (h : f_X0_opensTo m p0 = some v) : gn_Cl yX0_opensTo cX0_opensTo 2 (some .boolean) 2 42 [.ref 7, .int p0] m (some (.int v)) m := by
  rw [f_X0_opensTo] at h
  refine gn_met (lv := [some (.ref 7), some (.int p0)]) pl_X0 rfl rfl (Nat.le_of_ble_eq_true rfl) ?_
  refine gr_aload_n dX0_opensTo_0 rfl rfl ?_
  refine gr_iload_n dX0_opensTo_1 rfl rfl ?_
  obtain ⟨x1, hx1, h⟩ := gn_bd h
  refine gc_VI (c_X0_waits hx1) my_X0_waits mv_X0_waits ob_7 ml_X0_50 rfl rfl ⟨Nat.le_of_ble_eq_true rfl, Nat.le_of_ble_eq_true rfl⟩ (Nat.le_of_ble_eq_true rfl) dX0_opensTo_2 (fun fx1 => ?_)
  refine gr_if_eq (tgt := 40) dX0_opensTo_5 (by decide) h (fun _ h => ?_) (fun _ h => ?_)
  · refine gr_iconst dX0_opensTo_40 gk_i_0 ?_
    exact gq_retI dX0_opensTo_41 rfl h
  · refine gr_aload_n dX0_opensTo_8 rfl rfl ?_
    refine gr_getI q_7_9 fl_X0_40 dX0_opensTo_9 ?_
    refine gr_bipush dX0_opensTo_12 gk_b_m9 ?_
    refine gr_icmp_eq (tgt := 36) dX0_opensTo_14 (by decide) h (fun _ h => ?_) (fun _ h => ?_)
    · refine gr_iconst dX0_opensTo_36 gk_i_1 ?_
      refine gr_goto (tgt := 41) dX0_opensTo_37 (by decide) ?_
      exact gq_retI dX0_opensTo_41 rfl h
    · refine gr_aload_n dX0_opensTo_17 rfl rfl ?_
      refine gr_iload_n dX0_opensTo_18 rfl rfl ?_
      refine gr_aload_n dX0_opensTo_19 rfl rfl ?_
      refine gr_getR q_7_3 fl_X0_21 dX0_opensTo_20 ?_
      obtain ⟨x2, hx2, h⟩ := gn_bd h
      refine gc_VI (c_X0_naming s_30 hx2) my_X0_naming mv_X0_naming ob_7 ml_X0_96 rfl rfl ⟨Nat.le_of_ble_eq_true rfl, Nat.le_of_ble_eq_true rfl⟩ (Nat.le_of_ble_eq_true rfl) dX0_opensTo_23 (fun fx2 => ?_)
      refine gr_aload_n dX0_opensTo_26 rfl rfl ?_
      refine gr_getI q_7_9 fl_X0_40 dX0_opensTo_27 ?_
      obtain ⟨x3, hx3, h⟩ := gn_bd h
      refine gc_SNI (c_X3_isIn hx3) my_X3_isIn ms_X3_isIn ml_X0_46 rfl rfl ⟨Nat.le_of_ble_eq_true rfl, Nat.le_of_ble_eq_true rfl⟩ (Nat.le_of_ble_eq_true rfl) dX0_opensTo_30 (fun fx3 => ?_)
      refine gr_if_eq (tgt := 40) dX0_opensTo_33 (by decide) h (fun _ h => ?_) (fun _ h => ?_)
      · refine gr_iconst dX0_opensTo_40 gk_i_0 ?_
        exact gq_retI dX0_opensTo_41 rfl h
      · refine gr_iconst dX0_opensTo_36 gk_i_1 ?_
        refine gr_goto (tgt := 41) dX0_opensTo_37 (by decide) ?_
        exact gq_retI dX0_opensTo_41 rfl h
def f_X3_traitOf (m : gn_M) (p0 : Int32) (p1 : Int32) : Option (Int32) := (if p1 = 0 then gn_rd m 27 7 p0 (fun x1 => some x1) else (if p1 = 1 then gn_rd m 28 7 p0 (fun x2 => some x2) else (if p1 = 2 then gn_rd m 30 7 p0 (fun x3 => some x3) else (if p1 = 3 then (f_X0_tellingOf m p0).bind (fun x4 => some x4) else (if p1 = 4 then (f_X0_naming m p0 30).bind (fun x5 => some x5) else (if p1 = 5 then (f_X0_waits m p0).bind (fun x6 => (if x6 = 0 then some (1 : Int32) else some (0 : Int32))) else (f_X0_opensTo m p0).bind (fun x7 => (if x7 = 0 then some (0 : Int32) else some (1 : Int32)))))))))
set_option maxRecDepth 100000 in
set_option maxHeartbeats 4000000 in
theorem c_X3_traitOf {m : gn_M} {p0 : Int32} {p1 : Int32} {v : Int32} (h : f_X3_traitOf m p0 p1 = some v) : gn_Cl yX3_traitOf cX3_traitOf 3 (some .int) 3 63 [.ref 0, .int p0, .int p1] m (some (.int v)) m := by
  rw [f_X3_traitOf] at h
  refine gn_met (lv := [some (.ref 0), some (.int p0), some (.int p1)]) pl_X3 rfl rfl (Nat.le_of_ble_eq_true rfl) ?_
  refine gr_iload_n dX3_traitOf_0 rfl rfl ?_
  refine gn_sw h (fun hs0 h => ?_) (fun hs0 h => ?_)
  · refine gr_tsIn (tgt := 40) dX3_traitOf_1 hs0 (by decide) (by decide) rfl (by decide) ?_
    refine gr_aload_n dX3_traitOf_40 rfl rfl ?_
    refine gr_getR q_0_2 fl_X3_24 dX3_traitOf_41 ?_
    refine gr_getRN q_7_0 fl_X3_134 dX3_traitOf_44 ?_
    refine gr_iload_n dX3_traitOf_47 rfl rfl ?_
    refine gq_iaload s_27 dX3_traitOf_48 h (fun x1 h => ?_)
    exact gq_retI dX3_traitOf_49 rfl h
  refine gn_sw h (fun hs1 h => ?_) (fun hs1 h => ?_)
  · refine gr_tsIn (tgt := 50) dX3_traitOf_1 hs1 (by decide) (by decide) rfl (by decide) ?_
    refine gr_aload_n dX3_traitOf_50 rfl rfl ?_
    refine gr_getR q_0_2 fl_X3_24 dX3_traitOf_51 ?_
    refine gr_getRN q_7_1 fl_X3_305 dX3_traitOf_54 ?_
    refine gr_iload_n dX3_traitOf_57 rfl rfl ?_
    refine gq_iaload s_28 dX3_traitOf_58 h (fun x2 h => ?_)
    exact gq_retI dX3_traitOf_59 rfl h
  refine gn_sw h (fun hs2 h => ?_) (fun hs2 h => ?_)
  · refine gr_tsIn (tgt := 60) dX3_traitOf_1 hs2 (by decide) (by decide) rfl (by decide) ?_
    refine gr_aload_n dX3_traitOf_60 rfl rfl ?_
    refine gr_getR q_0_2 fl_X3_24 dX3_traitOf_61 ?_
    refine gr_getRN q_7_3 fl_X3_203 dX3_traitOf_64 ?_
    refine gr_iload_n dX3_traitOf_67 rfl rfl ?_
    refine gq_iaload s_30 dX3_traitOf_68 h (fun x3 h => ?_)
    exact gq_retI dX3_traitOf_69 rfl h
  refine gn_sw h (fun hs3 h => ?_) (fun hs3 h => ?_)
  · refine gr_tsIn (tgt := 70) dX3_traitOf_1 hs3 (by decide) (by decide) rfl (by decide) ?_
    refine gr_aload_n dX3_traitOf_70 rfl rfl ?_
    refine gr_getR q_0_2 fl_X3_24 dX3_traitOf_71 ?_
    refine gr_iload_n dX3_traitOf_74 rfl rfl ?_
    obtain ⟨x4, hx4, h⟩ := gn_bd h
    refine gc_VNI (c_X0_tellingOf hx4) my_X0_tellingOf mv_X0_tellingOf ob_7 ml_X3_148 rfl rfl ⟨Nat.le_of_ble_eq_true rfl, Nat.le_of_ble_eq_true rfl⟩ (Nat.le_of_ble_eq_true rfl) dX3_traitOf_75 (fun fx4 => ?_)
    exact gq_retI dX3_traitOf_78 rfl h
  refine gn_sw h (fun hs4 h => ?_) (fun hs4 h => ?_)
  · refine gr_tsIn (tgt := 79) dX3_traitOf_1 hs4 (by decide) (by decide) rfl (by decide) ?_
    refine gr_aload_n dX3_traitOf_79 rfl rfl ?_
    refine gr_getR q_0_2 fl_X3_24 dX3_traitOf_80 ?_
    refine gr_iload_n dX3_traitOf_83 rfl rfl ?_
    refine gr_aload_n dX3_traitOf_84 rfl rfl ?_
    refine gr_getR q_0_2 fl_X3_24 dX3_traitOf_85 ?_
    refine gr_getRN q_7_3 fl_X3_203 dX3_traitOf_88 ?_
    obtain ⟨x5, hx5, h⟩ := gn_bd h
    refine gc_VNI (c_X0_naming s_30 hx5) my_X0_naming mv_X0_naming ob_7 ml_X3_308 rfl rfl ⟨Nat.le_of_ble_eq_true rfl, Nat.le_of_ble_eq_true rfl⟩ (Nat.le_of_ble_eq_true rfl) dX3_traitOf_91 (fun fx5 => ?_)
    exact gq_retI dX3_traitOf_94 rfl h
  refine gn_sw h (fun hs5 h => ?_) (fun hs5 h => ?_)
  · refine gr_tsIn (tgt := 95) dX3_traitOf_1 hs5 (by decide) (by decide) rfl (by decide) ?_
    refine gr_aload_n dX3_traitOf_95 rfl rfl ?_
    refine gr_getR q_0_2 fl_X3_24 dX3_traitOf_96 ?_
    refine gr_iload_n dX3_traitOf_99 rfl rfl ?_
    obtain ⟨x6, hx6, h⟩ := gn_bd h
    refine gc_VNI (c_X0_waits hx6) my_X0_waits mv_X0_waits ob_7 ml_X3_244 rfl rfl ⟨Nat.le_of_ble_eq_true rfl, Nat.le_of_ble_eq_true rfl⟩ (Nat.le_of_ble_eq_true rfl) dX3_traitOf_100 (fun fx6 => ?_)
    refine gr_if_eq (tgt := 110) dX3_traitOf_103 (by decide) h (fun _ h => ?_) (fun _ h => ?_)
    · refine gr_iconst dX3_traitOf_110 gk_i_1 ?_
      exact gq_retI dX3_traitOf_111 rfl h
    · refine gr_iconst dX3_traitOf_106 gk_i_0 ?_
      refine gr_goto (tgt := 111) dX3_traitOf_107 (by decide) ?_
      exact gq_retI dX3_traitOf_111 rfl h
  refine gr_tsOut (tgt := 112) dX3_traitOf_1 (by have := gn_out (x := p1) 6 0 (fun j hj => match j, hj with | 0, _ => hs0 | 1, _ => hs1 | 2, _ => hs2 | 3, _ => hs3 | 4, _ => hs4 | 5, _ => hs5 | j + 6, hj => absurd hj (by omega)); omega) (by decide) ?_
  refine gr_aload_n dX3_traitOf_112 rfl rfl ?_
  refine gr_getR q_0_2 fl_X3_24 dX3_traitOf_113 ?_
  refine gr_iload_n dX3_traitOf_116 rfl rfl ?_
  obtain ⟨x7, hx7, h⟩ := gn_bd h
  refine gc_VNI (c_X0_opensTo hx7) my_X0_opensTo mv_X0_opensTo ob_7 ml_X3_182 rfl rfl ⟨Nat.le_of_ble_eq_true rfl, Nat.le_of_ble_eq_true rfl⟩ (Nat.le_of_ble_eq_true rfl) dX3_traitOf_117 (fun fx7 => ?_)
  refine gr_if_eq (tgt := 127) dX3_traitOf_120 (by decide) h (fun _ h => ?_) (fun _ h => ?_)
  · refine gr_iconst dX3_traitOf_127 gk_i_0 ?_
    exact gq_retI dX3_traitOf_128 rfl h
  · refine gr_iconst dX3_traitOf_123 gk_i_1 ?_
    refine gr_goto (tgt := 128) dX3_traitOf_124 (by decide) ?_
    exact gq_retI dX3_traitOf_128 rfl h
def f_X3_goer (m : gn_M) (p0 : Int32) (p1 : Int32) : Option (Int32 × gn_M) := (f_X0_numbers m p0).bind (fun x1 => (if x1 = 0 then some ((-1 : Int32), m) else (if p1 < 0 then some ((-1 : Int32), m) else (if p1 < (7 : Int32) then (f_X3_traitOf m p0 p1).bind (fun x2 => (f_X3_toldByAsked m x2).bind (fun x3 => some (x3.1, x3.2))) else some ((-1 : Int32), m)))))
set_option maxRecDepth 100000 in
set_option maxHeartbeats 4000000 in
theorem c_X3_goer {m : gn_M} {p0 : Int32} {p1 : Int32} {v : Int32 × gn_M} (h : f_X3_goer m p0 p1 = some v) : gn_Cl yX3_goer cX3_goer 3 (some .int) 4 85 [.ref 0, .int p0, .int p1] m (some (.int v.1)) v.2 := by
  rw [f_X3_goer] at h
  refine gn_met (lv := [some (.ref 0), some (.int p0), some (.int p1)]) pl_X3 rfl rfl (Nat.le_of_ble_eq_true rfl) ?_
  refine gr_aload_n dX3_goer_0 rfl rfl ?_
  refine gr_getR q_0_2 fl_X3_24 dX3_goer_1 ?_
  refine gr_iload_n dX3_goer_4 rfl rfl ?_
  obtain ⟨x1, hx1, h⟩ := gn_bd h
  refine gc_VNI (c_X0_numbers hx1) my_X0_numbers mv_X0_numbers ob_7 ml_X3_129 rfl rfl ⟨Nat.le_of_ble_eq_true rfl, Nat.le_of_ble_eq_true rfl⟩ (Nat.le_of_ble_eq_true rfl) dX3_goer_5 (fun fx1 => ?_)
  refine gr_if_eq (tgt := 21) dX3_goer_8 (by decide) h (fun _ h => ?_) (fun _ h => ?_)
  · refine gr_iconst dX3_goer_21 gk_i_m1 ?_
    exact gq_retIM dX3_goer_22 rfl h
  · refine gr_iload_n dX3_goer_11 rfl rfl ?_
    refine gr_if_lt (tgt := 21) dX3_goer_12 (by decide) h (fun _ h => ?_) (fun _ h => ?_)
    · refine gr_iconst dX3_goer_21 gk_i_m1 ?_
      exact gq_retIM dX3_goer_22 rfl h
    · refine gr_iload_n dX3_goer_15 rfl rfl ?_
      refine gr_bipush dX3_goer_16 gk_b_7 ?_
      refine gr_icmp_lt (tgt := 23) dX3_goer_18 (by decide) h (fun _ h => ?_) (fun _ h => ?_)
      · refine gr_aload_n dX3_goer_23 rfl rfl ?_
        refine gr_aload_n dX3_goer_24 rfl rfl ?_
        refine gr_iload_n dX3_goer_25 rfl rfl ?_
        refine gr_iload_n dX3_goer_26 rfl rfl ?_
        obtain ⟨x2, hx2, h⟩ := gn_bd h
        refine gc_VI (c_X3_traitOf hx2) my_X3_traitOf mv_X3_traitOf ob_0 ml_X3_130 rfl rfl ⟨Nat.le_of_ble_eq_true rfl, Nat.le_of_ble_eq_true rfl⟩ (Nat.le_of_ble_eq_true rfl) dX3_goer_27 (fun fx2 => ?_)
        obtain ⟨x3, hx3, h⟩ := gn_bd h
        refine gc_VI (c_X3_toldByAsked hx3) my_X3_toldByAsked mv_X3_toldByAsked ob_0 ml_X3_84 rfl rfl ⟨Nat.le_of_ble_eq_true rfl, Nat.le_of_ble_eq_true rfl⟩ (Nat.le_of_ble_eq_true rfl) dX3_goer_30 (fun fx3 => ?_)
        exact gq_retIM dX3_goer_33 rfl h
      · refine gr_iconst dX3_goer_21 gk_i_m1 ?_
        exact gq_retIM dX3_goer_22 rfl h
def L_X0_toldOf_4 (n : Nat) (m : gn_M) (a1 : Int32) (k : Int32 → Option (Int32)) : Nat → Int32 → Int32 → Option (Int32)
  | 0, _, _ => none
  | f + 1, v2, v3 => (if v3 < (m.1 7 6) then gn_rd m 30 7 v3 (fun x1 => (f_X3_isIn x1 a1).bind (fun x2 => (if x2 = 0 then L_X0_toldOf_4 n m a1 k f v2 (v3 + (1 : Int32)) else L_X0_toldOf_4 n m a1 k f (v2 ||| ((1 : Int32) <<< (v3 &&& 31))) (v3 + (1 : Int32))))) else k v2)
set_option maxRecDepth 100000 in
set_option maxHeartbeats 4000000 in
theorem l_X0_toldOf_4 {n : Nat} {m : gn_M} {a1 : Int32} {k : Int32 → Option (Int32)} {v : Int32} (hk : ∀ (e2 : Int32), k e2 = some v → gn_Go RX0 cX0_toldOf 4 1 21 (some .int) none 37 [none, none, some (.int e2), none] [] m (some (.int v)) m) : ∀ (f : Nat) (v2 : Int32) (v3 : Int32), L_X0_toldOf_4 n m a1 k f v2 v3 = some v → gn_Go RX0 cX0_toldOf 4 1 21 (some .int) none 4 [some (.ref 7), some (.int a1), some (.int v2), some (.int v3)] [] m (some (.int v)) m := by
  intro f
  induction f with
  | zero =>
    intro v2 v3 h
    cases h
  | succ f ih =>
    intro v2 v3 h
    rw [L_X0_toldOf_4] at h
    refine gr_iload_n dX0_toldOf_4 rfl rfl ?_
    refine gr_aload_n dX0_toldOf_5 rfl rfl ?_
    refine gr_getI q_7_6 fl_X0_30 dX0_toldOf_6 ?_
    refine gr_icmp_ge (tgt := 37) dX0_toldOf_9 (by decide) h (fun _ h => ?_) (fun _ h => ?_)
    · refine gr_aload_n dX0_toldOf_12 rfl rfl ?_
      refine gr_getR q_7_3 fl_X0_21 dX0_toldOf_13 ?_
      refine gr_iload_n dX0_toldOf_16 rfl rfl ?_
      refine gq_iaload s_30 dX0_toldOf_17 h (fun x1 h => ?_)
      refine gr_iload_n dX0_toldOf_18 rfl rfl ?_
      obtain ⟨x2, hx2, h⟩ := gn_bd h
      refine gc_SNI (c_X3_isIn hx2) my_X3_isIn ms_X3_isIn ml_X0_46 rfl rfl ⟨Nat.le_of_ble_eq_true rfl, Nat.le_of_ble_eq_true rfl⟩ (Nat.le_of_ble_eq_true rfl) dX0_toldOf_19 (fun fx2 => ?_)
      refine gr_if_eq (tgt := 31) dX0_toldOf_22 (by decide) h (fun _ h => ?_) (fun _ h => ?_)
      · refine gr_iinc (lv' := [some (.ref 7), some (.int a1), some (.int v2), some (.int (v3 + (1 : Int32)))]) dX0_toldOf_31 rfl gk_i_1 (by decide) rfl ?_
        refine gr_goto (tgt := 4) dX0_toldOf_34 (by decide) ?_
        exact ih _ _ h
      · refine gr_iload_n dX0_toldOf_25 rfl rfl ?_
        refine gr_iconst dX0_toldOf_26 gk_i_1 ?_
        refine gr_iload_n dX0_toldOf_27 rfl rfl ?_
        refine gr_ishl dX0_toldOf_28 ?_
        refine gr_ior dX0_toldOf_29 ?_
        refine gr_istore_n (lv' := [some (.ref 7), some (.int a1), some (.int (v2 ||| ((1 : Int32) <<< (v3 &&& 31)))), some (.int v3)]) dX0_toldOf_30 rfl (by decide) rfl ?_
        refine gr_iinc (lv' := [some (.ref 7), some (.int a1), some (.int (v2 ||| ((1 : Int32) <<< (v3 &&& 31)))), some (.int (v3 + (1 : Int32)))]) dX0_toldOf_31 rfl gk_i_1 (by decide) rfl ?_
        refine gr_goto (tgt := 4) dX0_toldOf_34 (by decide) ?_
        exact ih _ _ h
    · refine gn_wkn [false, false, true, false] rfl ?_
      exact hk _ h
def f_X0_toldOf (n : Nat) (m : gn_M) (p0 : Int32) : Option (Int32) := L_X0_toldOf_4 n m p0 (fun (e3 : Int32) => some e3) n (0 : Int32) (0 : Int32)
set_option maxRecDepth 100000 in
set_option maxHeartbeats 4000000 in
theorem c_X0_toldOf {n : Nat} {m : gn_M} {p0 : Int32} {v : Int32} (h : f_X0_toldOf n m p0 = some v) : gn_Cl yX0_toldOf cX0_toldOf 4 (some .int) 1 21 [.ref 7, .int p0] m (some (.int v)) m := by
  rw [f_X0_toldOf] at h
  refine gn_met (lv := [some (.ref 7), some (.int p0), none, none]) pl_X0 rfl rfl (Nat.le_of_ble_eq_true rfl) ?_
  refine gr_iconst dX0_toldOf_0 gk_i_0 ?_
  refine gr_istore_n (lv' := [some (.ref 7), some (.int p0), some (.int (0 : Int32)), none]) dX0_toldOf_1 rfl (by decide) rfl ?_
  refine gr_iconst dX0_toldOf_2 gk_i_0 ?_
  refine gr_istore_n (lv' := [some (.ref 7), some (.int p0), some (.int (0 : Int32)), some (.int (0 : Int32))]) dX0_toldOf_3 rfl (by decide) rfl ?_
  refine l_X0_toldOf_4 (fun e3 h => ?_) _ _ _ h
  refine gr_iload_n dX0_toldOf_37 rfl rfl ?_
  exact gq_retI dX0_toldOf_38 rfl h
def f_J6_bitCount_0f7a4 (p0 : Int32) : Option (Int32) := gn_nm (p0 - ((p0.toUInt32 >>> ((1 : Int32).toUInt32 &&& Int32.toUInt32 31)).toInt32 &&& (1431655765 : Int32))) (fun x1 => gn_nm ((x1 &&& (858993459 : Int32)) + ((x1.toUInt32 >>> ((2 : Int32).toUInt32 &&& Int32.toUInt32 31)).toInt32 &&& (858993459 : Int32))) (fun x2 => gn_nm ((x2 + (x2.toUInt32 >>> ((4 : Int32).toUInt32 &&& Int32.toUInt32 31)).toInt32) &&& (252645135 : Int32)) (fun x3 => gn_nm (x3 + (x3.toUInt32 >>> ((8 : Int32).toUInt32 &&& Int32.toUInt32 31)).toInt32) (fun x4 => gn_nm (x4 + (x4.toUInt32 >>> ((16 : Int32).toUInt32 &&& Int32.toUInt32 31)).toInt32) (fun x5 => some (x5 &&& (63 : Int32)))))))
set_option maxRecDepth 100000 in
set_option maxHeartbeats 4000000 in
theorem c_J6_bitCount_0f7a4 {m : gn_M} {p0 : Int32} {v : Int32} (h : f_J6_bitCount_0f7a4 p0 = some v) : gn_Cl yJ6_bitCount_0f7a4 cJ6_bitCount_0f7a4 1 (some .int) 0 0 [.int p0] m (some (.int v)) m := by
  rw [f_J6_bitCount_0f7a4] at h
  refine gn_met (lv := [some (.int p0)]) pl_J6 rfl rfl (Nat.le_of_ble_eq_true rfl) ?_
  refine gr_iload_n dJ6_bitCount_0f7a4_0 rfl rfl ?_
  refine gr_iload_n dJ6_bitCount_0f7a4_1 rfl rfl ?_
  refine gr_iconst dJ6_bitCount_0f7a4_2 gk_i_1 ?_
  refine gr_iushr dJ6_bitCount_0f7a4_3 ?_
  refine gr_ldcw kc_J6_265 dJ6_bitCount_0f7a4_4 ?_
  refine gr_iand dJ6_bitCount_0f7a4_7 ?_
  refine gr_isub dJ6_bitCount_0f7a4_8 ?_
  refine gq_istore_n (lf := fun x1 => [some (.int x1)]) dJ6_bitCount_0f7a4_9 h rfl (by decide) (fun _ => rfl) (fun x1 h => ?_)
  refine gr_iload_n dJ6_bitCount_0f7a4_10 rfl rfl ?_
  refine gr_ldcw kc_J6_266 dJ6_bitCount_0f7a4_11 ?_
  refine gr_iand dJ6_bitCount_0f7a4_14 ?_
  refine gr_iload_n dJ6_bitCount_0f7a4_15 rfl rfl ?_
  refine gr_iconst dJ6_bitCount_0f7a4_16 gk_i_2 ?_
  refine gr_iushr dJ6_bitCount_0f7a4_17 ?_
  refine gr_ldcw kc_J6_266 dJ6_bitCount_0f7a4_18 ?_
  refine gr_iand dJ6_bitCount_0f7a4_21 ?_
  refine gr_iadd dJ6_bitCount_0f7a4_22 ?_
  refine gq_istore_n (lf := fun x2 => [some (.int x2)]) dJ6_bitCount_0f7a4_23 h rfl (by decide) (fun _ => rfl) (fun x2 h => ?_)
  refine gr_iload_n dJ6_bitCount_0f7a4_24 rfl rfl ?_
  refine gr_iload_n dJ6_bitCount_0f7a4_25 rfl rfl ?_
  refine gr_iconst dJ6_bitCount_0f7a4_26 gk_i_4 ?_
  refine gr_iushr dJ6_bitCount_0f7a4_27 ?_
  refine gr_iadd dJ6_bitCount_0f7a4_28 ?_
  refine gr_ldcw kc_J6_267 dJ6_bitCount_0f7a4_29 ?_
  refine gr_iand dJ6_bitCount_0f7a4_32 ?_
  refine gq_istore_n (lf := fun x3 => [some (.int x3)]) dJ6_bitCount_0f7a4_33 h rfl (by decide) (fun _ => rfl) (fun x3 h => ?_)
  refine gr_iload_n dJ6_bitCount_0f7a4_34 rfl rfl ?_
  refine gr_iload_n dJ6_bitCount_0f7a4_35 rfl rfl ?_
  refine gr_bipush dJ6_bitCount_0f7a4_36 gk_b_8 ?_
  refine gr_iushr dJ6_bitCount_0f7a4_38 ?_
  refine gr_iadd dJ6_bitCount_0f7a4_39 ?_
  refine gq_istore_n (lf := fun x4 => [some (.int x4)]) dJ6_bitCount_0f7a4_40 h rfl (by decide) (fun _ => rfl) (fun x4 h => ?_)
  refine gr_iload_n dJ6_bitCount_0f7a4_41 rfl rfl ?_
  refine gr_iload_n dJ6_bitCount_0f7a4_42 rfl rfl ?_
  refine gr_bipush dJ6_bitCount_0f7a4_43 gk_b_16 ?_
  refine gr_iushr dJ6_bitCount_0f7a4_45 ?_
  refine gr_iadd dJ6_bitCount_0f7a4_46 ?_
  refine gq_istore_n (lf := fun x5 => [some (.int x5)]) dJ6_bitCount_0f7a4_47 h rfl (by decide) (fun _ => rfl) (fun x5 h => ?_)
  refine gr_iload_n dJ6_bitCount_0f7a4_48 rfl rfl ?_
  refine gr_bipush dJ6_bitCount_0f7a4_49 gk_b_63 ?_
  refine gr_iand dJ6_bitCount_0f7a4_51 ?_
  exact gq_retI dJ6_bitCount_0f7a4_52 rfl h
def L_X0_namersOf_4 (n : Nat) (m : gn_M) (a1 : Int32) (k : Int32 → Option (Int32)) : Nat → Int32 → Int32 → Option (Int32)
  | 0, _, _ => none
  | f + 1, v2, v3 => (if v3 < (m.1 7 6) then (f_X0_naming m v3 30).bind (fun x1 => (f_X3_isIn x1 a1).bind (fun x2 => (if x2 = 0 then L_X0_namersOf_4 n m a1 k f v2 (v3 + (1 : Int32)) else L_X0_namersOf_4 n m a1 k f (v2 ||| ((1 : Int32) <<< (v3 &&& 31))) (v3 + (1 : Int32))))) else k v2)
set_option maxRecDepth 100000 in
set_option maxHeartbeats 4000000 in
theorem l_X0_namersOf_4 {n : Nat} {m : gn_M} {a1 : Int32} {k : Int32 → Option (Int32)} {v : Int32} (hk : ∀ (e2 : Int32), k e2 = some v → gn_Go RX0 cX0_namersOf 4 1 23 (some .int) none 40 [none, none, some (.int e2), none] [] m (some (.int v)) m) : ∀ (f : Nat) (v2 : Int32) (v3 : Int32), L_X0_namersOf_4 n m a1 k f v2 v3 = some v → gn_Go RX0 cX0_namersOf 4 1 23 (some .int) none 4 [some (.ref 7), some (.int a1), some (.int v2), some (.int v3)] [] m (some (.int v)) m := by
  intro f
  induction f with
  | zero =>
    intro v2 v3 h
    cases h
  | succ f ih =>
    intro v2 v3 h
    rw [L_X0_namersOf_4] at h
    refine gr_iload_n dX0_namersOf_4 rfl rfl ?_
    refine gr_aload_n dX0_namersOf_5 rfl rfl ?_
    refine gr_getI q_7_6 fl_X0_30 dX0_namersOf_6 ?_
    refine gr_icmp_ge (tgt := 40) dX0_namersOf_9 (by decide) h (fun _ h => ?_) (fun _ h => ?_)
    · refine gr_aload_n dX0_namersOf_12 rfl rfl ?_
      refine gr_iload_n dX0_namersOf_13 rfl rfl ?_
      refine gr_aload_n dX0_namersOf_14 rfl rfl ?_
      refine gr_getR q_7_3 fl_X0_21 dX0_namersOf_15 ?_
      obtain ⟨x1, hx1, h⟩ := gn_bd h
      refine gc_VI (c_X0_naming s_30 hx1) my_X0_naming mv_X0_naming ob_7 ml_X0_96 rfl rfl ⟨Nat.le_of_ble_eq_true rfl, Nat.le_of_ble_eq_true rfl⟩ (Nat.le_of_ble_eq_true rfl) dX0_namersOf_18 (fun fx1 => ?_)
      refine gr_iload_n dX0_namersOf_21 rfl rfl ?_
      obtain ⟨x2, hx2, h⟩ := gn_bd h
      refine gc_SNI (c_X3_isIn hx2) my_X3_isIn ms_X3_isIn ml_X0_46 rfl rfl ⟨Nat.le_of_ble_eq_true rfl, Nat.le_of_ble_eq_true rfl⟩ (Nat.le_of_ble_eq_true rfl) dX0_namersOf_22 (fun fx2 => ?_)
      refine gr_if_eq (tgt := 34) dX0_namersOf_25 (by decide) h (fun _ h => ?_) (fun _ h => ?_)
      · refine gr_iinc (lv' := [some (.ref 7), some (.int a1), some (.int v2), some (.int (v3 + (1 : Int32)))]) dX0_namersOf_34 rfl gk_i_1 (by decide) rfl ?_
        refine gr_goto (tgt := 4) dX0_namersOf_37 (by decide) ?_
        exact ih _ _ h
      · refine gr_iload_n dX0_namersOf_28 rfl rfl ?_
        refine gr_iconst dX0_namersOf_29 gk_i_1 ?_
        refine gr_iload_n dX0_namersOf_30 rfl rfl ?_
        refine gr_ishl dX0_namersOf_31 ?_
        refine gr_ior dX0_namersOf_32 ?_
        refine gr_istore_n (lv' := [some (.ref 7), some (.int a1), some (.int (v2 ||| ((1 : Int32) <<< (v3 &&& 31)))), some (.int v3)]) dX0_namersOf_33 rfl (by decide) rfl ?_
        refine gr_iinc (lv' := [some (.ref 7), some (.int a1), some (.int (v2 ||| ((1 : Int32) <<< (v3 &&& 31)))), some (.int (v3 + (1 : Int32)))]) dX0_namersOf_34 rfl gk_i_1 (by decide) rfl ?_
        refine gr_goto (tgt := 4) dX0_namersOf_37 (by decide) ?_
        exact ih _ _ h
    · refine gn_wkn [false, false, true, false] rfl ?_
      exact hk _ h
def f_X0_namersOf (n : Nat) (m : gn_M) (p0 : Int32) : Option (Int32) := L_X0_namersOf_4 n m p0 (fun (e3 : Int32) => some e3) n (0 : Int32) (0 : Int32)
set_option maxRecDepth 100000 in
set_option maxHeartbeats 4000000 in
theorem c_X0_namersOf {n : Nat} {m : gn_M} {p0 : Int32} {v : Int32} (h : f_X0_namersOf n m p0 = some v) : gn_Cl yX0_namersOf cX0_namersOf 4 (some .int) 1 23 [.ref 7, .int p0] m (some (.int v)) m := by
  rw [f_X0_namersOf] at h
  refine gn_met (lv := [some (.ref 7), some (.int p0), none, none]) pl_X0 rfl rfl (Nat.le_of_ble_eq_true rfl) ?_
  refine gr_iconst dX0_namersOf_0 gk_i_0 ?_
  refine gr_istore_n (lv' := [some (.ref 7), some (.int p0), some (.int (0 : Int32)), none]) dX0_namersOf_1 rfl (by decide) rfl ?_
  refine gr_iconst dX0_namersOf_2 gk_i_0 ?_
  refine gr_istore_n (lv' := [some (.ref 7), some (.int p0), some (.int (0 : Int32)), some (.int (0 : Int32))]) dX0_namersOf_3 rfl (by decide) rfl ?_
  refine l_X0_namersOf_4 (fun e3 h => ?_) _ _ _ h
  refine gr_iload_n dX0_namersOf_40 rfl rfl ?_
  exact gq_retI dX0_namersOf_41 rfl h
