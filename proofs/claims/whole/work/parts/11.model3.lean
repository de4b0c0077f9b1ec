def L_X4_waysOf_11 (n : Nat) (m : gn_M) (a1 : Int32) (a2 : Int32) (a3 : Int32) (k : Int64 → Option (Int64)) : Nat → Int64 → Int32 → Option (Int64)
  | 0, _, _ => none
  | f + 1, v4, v6 => (if v6 < (m.1 38 10) then (f_X4_has a3 v6).bind (fun x2 => (if x2 = 0 then L_X4_waysOf_11 n m a1 a2 a3 k f (v4 * (1 : Int64)) (v6 + (1 : Int32)) else (f_X4_has a1 v6).bind (fun x3 => (if x3 = 0 then L_X4_waysOf_11 n m a1 a2 a3 k f (v4 * a2.toInt64) (v6 + (1 : Int32)) else L_X4_waysOf_11 n m a1 a2 a3 k f (v4 * ((12 : Int64) - a2.toInt64)) (v6 + (1 : Int32)))))) else k v4)
set_option maxRecDepth 100000 in
set_option maxHeartbeats 4000000 in
theorem l_X4_waysOf_11 {n : Nat} {m : gn_M} {a1 : Int32} {a2 : Int32} {a3 : Int32} {k : Int64 → Option (Int64)} {v : Int64} (hk : ∀ (e4 : Int64), k e4 = some v → gn_Go RX4 cX4_waysOf 7 2 41 (some .long) none 64 [none, some (.int a1), none, some (.int a3), some (.long e4), none, none] [] m (some (.long v)) m) : ∀ (f : Nat) (v4 : Int64) (v6 : Int32), L_X4_waysOf_11 n m a1 a2 a3 k f v4 v6 = some v → gn_Go RX4 cX4_waysOf 7 2 41 (some .long) none 11 [some (.ref 38), some (.int a1), some (.int a2), some (.int a3), some (.long v4), none, some (.int v6)] [] m (some (.long v)) m := by
  intro f
  induction f with
  | zero =>
    intro v4 v6 h
    cases h
  | succ f ih =>
    intro v4 v6 h
    rw [L_X4_waysOf_11] at h
    refine gr_iload dX4_waysOf_11 rfl ?_
    refine gr_aload_n dX4_waysOf_13 rfl rfl ?_
    refine gr_getI q_38_10 fl_X4_104 dX4_waysOf_14 ?_
    refine gr_icmp_ge (tgt := 64) dX4_waysOf_17 (by decide) h (fun _ h => ?_) (fun _ h => ?_)
    · refine gr_lload dX4_waysOf_20 rfl ?_
      refine gr_iload_n dX4_waysOf_22 rfl rfl ?_
      refine gr_iload dX4_waysOf_23 rfl ?_
      obtain ⟨x2, hx2, h⟩ := gn_bd h
      refine gc_SI (c_X4_has hx2) my_X4_has ms_X4_has ml_X4_123 rfl rfl ⟨Nat.le_of_ble_eq_true rfl, Nat.le_of_ble_eq_true rfl⟩ (Nat.le_of_ble_eq_true rfl) dX4_waysOf_25 (fun fx2 => ?_)
      refine gr_if_ne (tgt := 35) dX4_waysOf_28 (by decide) h (fun _ h => ?_) (fun _ h => ?_)
      · refine gr_lconst dX4_waysOf_31 gk_l_1 ?_
        refine gr_goto (tgt := 55) dX4_waysOf_32 (by decide) ?_
        refine gr_lmul dX4_waysOf_55 ?_
        refine gr_lstore (lv' := [some (.ref 38), some (.int a1), some (.int a2), some (.int a3), some (.long (v4 * (1 : Int64))), none, some (.int v6)]) dX4_waysOf_56 (by decide) rfl ?_
        refine gr_iinc (lv' := [some (.ref 38), some (.int a1), some (.int a2), some (.int a3), some (.long (v4 * (1 : Int64))), none, some (.int (v6 + (1 : Int32)))]) dX4_waysOf_58 rfl gk_i_1 (by decide) rfl ?_
        refine gr_goto (tgt := 11) dX4_waysOf_61 (by decide) ?_
        exact ih _ _ h
      · refine gr_iload_n dX4_waysOf_35 rfl rfl ?_
        refine gr_iload dX4_waysOf_36 rfl ?_
        obtain ⟨x3, hx3, h⟩ := gn_bd h
        refine gc_SI (c_X4_has hx3) my_X4_has ms_X4_has ml_X4_123 rfl rfl ⟨Nat.le_of_ble_eq_true rfl, Nat.le_of_ble_eq_true rfl⟩ (Nat.le_of_ble_eq_true rfl) dX4_waysOf_38 (fun fx3 => ?_)
        refine gr_if_eq (tgt := 53) dX4_waysOf_41 (by decide) h (fun _ h => ?_) (fun _ h => ?_)
        · refine gr_iload_n dX4_waysOf_53 rfl rfl ?_
          refine gr_i2l dX4_waysOf_54 ?_
          refine gr_lmul dX4_waysOf_55 ?_
          refine gr_lstore (lv' := [some (.ref 38), some (.int a1), some (.int a2), some (.int a3), some (.long (v4 * a2.toInt64)), none, some (.int v6)]) dX4_waysOf_56 (by decide) rfl ?_
          refine gr_iinc (lv' := [some (.ref 38), some (.int a1), some (.int a2), some (.int a3), some (.long (v4 * a2.toInt64)), none, some (.int (v6 + (1 : Int32)))]) dX4_waysOf_58 rfl gk_i_1 (by decide) rfl ?_
          refine gr_goto (tgt := 11) dX4_waysOf_61 (by decide) ?_
          exact ih _ _ h
        · refine gr_ldc2 kl_X4_219 dX4_waysOf_44 ?_
          refine gr_iload_n dX4_waysOf_47 rfl rfl ?_
          refine gr_i2l dX4_waysOf_48 ?_
          refine gr_lsub dX4_waysOf_49 ?_
          refine gr_goto (tgt := 55) dX4_waysOf_50 (by decide) ?_
          refine gr_lmul dX4_waysOf_55 ?_
          refine gr_lstore (lv' := [some (.ref 38), some (.int a1), some (.int a2), some (.int a3), some (.long (v4 * ((12 : Int64) - a2.toInt64))), none, some (.int v6)]) dX4_waysOf_56 (by decide) rfl ?_
          refine gr_iinc (lv' := [some (.ref 38), some (.int a1), some (.int a2), some (.int a3), some (.long (v4 * ((12 : Int64) - a2.toInt64))), none, some (.int (v6 + (1 : Int32)))]) dX4_waysOf_58 rfl gk_i_1 (by decide) rfl ?_
          refine gr_goto (tgt := 11) dX4_waysOf_61 (by decide) ?_
          exact ih _ _ h
    · refine gn_wkn [false, true, false, true, true, false, false] rfl ?_
      exact hk _ h
def f_X4_waysOf (n : Nat) (m : gn_M) (p0 : Int32) (p1 : Int32) : Option (Int64) := (f_X4_left m).bind (fun x1 => L_X4_waysOf_11 n m p0 p1 x1 (fun (e4 : Int64) => (if (p0 &&& (x1 ^^^ (-1 : Int32))) = 0 then some e4 else some (0 : Int64))) n (1 : Int64) (0 : Int32))
set_option maxRecDepth 100000 in
set_option maxHeartbeats 4000000 in
theorem c_X4_waysOf {n : Nat} {m : gn_M} {p0 : Int32} {p1 : Int32} {v : Int64} (h : f_X4_waysOf n m p0 p1 = some v) : gn_Cl yX4_waysOf cX4_waysOf 7 (some .long) 2 41 [.ref 38, .int p0, .int p1] m (some (.long v)) m := by
  rw [f_X4_waysOf] at h
  refine gn_met (lv := [some (.ref 38), some (.int p0), some (.int p1), none, none, none, none]) pl_X4 rfl rfl (Nat.le_of_ble_eq_true rfl) ?_
  refine gr_aload_n dX4_waysOf_0 rfl rfl ?_
  obtain ⟨x1, hx1, h⟩ := gn_bd h
  refine gc_VI (c_X4_left hx1) my_X4_left mv_X4_left ob_38 ml_X4_149 rfl rfl ⟨Nat.le_of_ble_eq_true rfl, Nat.le_of_ble_eq_true rfl⟩ (Nat.le_of_ble_eq_true rfl) dX4_waysOf_1 (fun fx1 => ?_)
  refine gr_istore_n (lv' := [some (.ref 38), some (.int p0), some (.int p1), some (.int x1), none, none, none]) dX4_waysOf_4 rfl (by decide) rfl ?_
  refine gr_lconst dX4_waysOf_5 gk_l_1 ?_
  refine gr_lstore (lv' := [some (.ref 38), some (.int p0), some (.int p1), some (.int x1), some (.long (1 : Int64)), none, none]) dX4_waysOf_6 (by decide) rfl ?_
  refine gr_iconst dX4_waysOf_8 gk_i_0 ?_
  refine gr_istore (lv' := [some (.ref 38), some (.int p0), some (.int p1), some (.int x1), some (.long (1 : Int64)), none, some (.int (0 : Int32))]) dX4_waysOf_9 (by decide) rfl ?_
  refine l_X4_waysOf_11 (fun e4 h => ?_) _ _ _ h
  refine gr_iload_n dX4_waysOf_64 rfl rfl ?_
  refine gr_iload_n dX4_waysOf_65 rfl rfl ?_
  refine gr_iconst dX4_waysOf_66 gk_i_m1 ?_
  refine gr_ixor dX4_waysOf_67 ?_
  refine gr_iand dX4_waysOf_68 ?_
  refine gr_if_ne (tgt := 77) dX4_waysOf_69 (by decide) h (fun _ h => ?_) (fun _ h => ?_)
  · refine gr_lload dX4_waysOf_72 rfl ?_
    refine gr_goto (tgt := 78) dX4_waysOf_74 (by decide) ?_
    exact gq_retL dX4_waysOf_78 trivial h
  · refine gr_lconst dX4_waysOf_77 gk_l_0 ?_
    exact gq_retL dX4_waysOf_78 trivial h
def L_X4_allWays_4 (n : Nat) (m : gn_M) (k : Int64 → Option (Int64)) : Nat → Int64 → Int32 → Option (Int64)
  | 0, _, _ => none
  | f + 1, v1, v3 => (f_X4_left m).bind (fun x1 => (f_X4_bitsOf n x1).bind (fun x2 => (if v3 < x2 then L_X4_allWays_4 n m k f (v1 * (12 : Int64)) (v3 + (1 : Int32)) else k v1)))
set_option maxRecDepth 100000 in
set_option maxHeartbeats 4000000 in
theorem l_X4_allWays_4 {n : Nat} {m : gn_M} {k : Int64 → Option (Int64)} {v : Int64} (hk : ∀ (e1 : Int64), k e1 = some v → gn_Go RX4 cX4_allWays 4 2 41 (some .long) none 27 [none, some (.long e1), none, none] [] m (some (.long v)) m) : ∀ (f : Nat) (v1 : Int64) (v3 : Int32), L_X4_allWays_4 n m k f v1 v3 = some v → gn_Go RX4 cX4_allWays 4 2 41 (some .long) none 4 [some (.ref 38), some (.long v1), none, some (.int v3)] [] m (some (.long v)) m := by
  intro f
  induction f with
  | zero =>
    intro v1 v3 h
    cases h
  | succ f ih =>
    intro v1 v3 h
    rw [L_X4_allWays_4] at h
    refine gr_iload_n dX4_allWays_4 rfl rfl ?_
    refine gr_aload_n dX4_allWays_5 rfl rfl ?_
    obtain ⟨x1, hx1, h⟩ := gn_bd h
    refine gc_VI (c_X4_left hx1) my_X4_left mv_X4_left ob_38 ml_X4_149 rfl rfl ⟨Nat.le_of_ble_eq_true rfl, Nat.le_of_ble_eq_true rfl⟩ (Nat.le_of_ble_eq_true rfl) dX4_allWays_6 (fun fx1 => ?_)
    obtain ⟨x2, hx2, h⟩ := gn_bd h
    refine gc_SI (c_X4_bitsOf hx2) my_X4_bitsOf ms_X4_bitsOf ml_X4_153 rfl rfl ⟨Nat.le_of_ble_eq_true rfl, Nat.le_of_ble_eq_true rfl⟩ (Nat.le_of_ble_eq_true rfl) dX4_allWays_9 (fun fx2 => ?_)
    refine gr_icmp_ge (tgt := 27) dX4_allWays_12 (by decide) h (fun _ h => ?_) (fun _ h => ?_)
    · refine gr_lload_n dX4_allWays_15 rfl rfl ?_
      refine gr_ldc2 kl_X4_219 dX4_allWays_16 ?_
      refine gr_lmul dX4_allWays_19 ?_
      refine gr_lstore_n (lv' := [some (.ref 38), some (.long (v1 * (12 : Int64))), none, some (.int v3)]) dX4_allWays_20 rfl (by decide) rfl ?_
      refine gr_iinc (lv' := [some (.ref 38), some (.long (v1 * (12 : Int64))), none, some (.int (v3 + (1 : Int32)))]) dX4_allWays_21 rfl gk_i_1 (by decide) rfl ?_
      refine gr_goto (tgt := 4) dX4_allWays_24 (by decide) ?_
      exact ih _ _ h
    · refine gn_wkn [false, true, false, false] rfl ?_
      exact hk _ h
def f_X4_allWays (n : Nat) (m : gn_M) : Option (Int64) := L_X4_allWays_4 n m (fun (e3 : Int64) => some e3) n (1 : Int64) (0 : Int32)
set_option maxRecDepth 100000 in
set_option maxHeartbeats 4000000 in
theorem c_X4_allWays {n : Nat} {m : gn_M} {v : Int64} (h : f_X4_allWays n m = some v) : gn_Cl yX4_allWays cX4_allWays 4 (some .long) 2 41 [.ref 38] m (some (.long v)) m := by
  rw [f_X4_allWays] at h
  refine gn_met (lv := [some (.ref 38), none, none, none]) pl_X4 rfl rfl (Nat.le_of_ble_eq_true rfl) ?_
  refine gr_lconst dX4_allWays_0 gk_l_1 ?_
  refine gr_lstore_n (lv' := [some (.ref 38), some (.long (1 : Int64)), none, none]) dX4_allWays_1 rfl (by decide) rfl ?_
  refine gr_iconst dX4_allWays_2 gk_i_0 ?_
  refine gr_istore_n (lv' := [some (.ref 38), some (.long (1 : Int64)), none, some (.int (0 : Int32))]) dX4_allWays_3 rfl (by decide) rfl ?_
  refine l_X4_allWays_4 (fun e3 h => ?_) _ _ _ h
  refine gr_lload_n dX4_allWays_27 rfl rfl ?_
  exact gq_retL dX4_allWays_28 trivial h
def L_X4_fraction_6 (n : Nat) (m : gn_M) (a1 : Int64) (a3 : Int64) (k : Int64 → Option (Int32 × gn_M)) : Nat → Int64 → Int64 → Option (Int32 × gn_M)
  | 0, _, _ => none
  | f + 1, v5, v7 => (if (lg_cmp v7 (0 : Int64)) = 0 then k v5 else gn_dvL v7 (L_X4_fraction_6 n m a1 a3 k f v7 (v5 - v5 / v7 * v7)))
set_option maxRecDepth 100000 in
set_option maxHeartbeats 4000000 in
theorem l_X4_fraction_6 {n : Nat} {m : gn_M} {a1 : Int64} {a3 : Int64} {k : Int64 → Option (Int32 × gn_M)} {v : Int32 × gn_M} (hk : ∀ (e5 : Int64), k e5 = some v → gn_Go RX4 cX4_fraction 11 0 0 (some .int) none 31 [some (.ref 38), some (.long a1), none, some (.long a3), none, some (.long e5), none, none, none, none, none] [] m (some (.int v.1)) v.2) : ∀ (f : Nat) (v5 : Int64) (v7 : Int64), L_X4_fraction_6 n m a1 a3 k f v5 v7 = some v → gn_Go RX4 cX4_fraction 11 0 0 (some .int) none 6 [some (.ref 38), some (.long a1), none, some (.long a3), none, some (.long v5), none, some (.long v7), none, none, none] [] m (some (.int v.1)) v.2 := by
  intro f
  induction f with
  | zero =>
    intro v5 v7 h
    cases h
  | succ f ih =>
    intro v5 v7 h
    rw [L_X4_fraction_6] at h
    refine gr_lload dX4_fraction_6 rfl ?_
    refine gr_lconst dX4_fraction_8 gk_l_0 ?_
    refine gr_lcmp dX4_fraction_9 ?_
    refine gr_if_eq (tgt := 31) dX4_fraction_10 (by decide) h (fun _ h => ?_) (fun _ h => ?_)
    · refine gn_wkn [true, true, false, true, false, true, false, false, false, false, false] rfl ?_
      exact hk _ h
    · refine gr_lload dX4_fraction_13 rfl ?_
      refine gr_lload dX4_fraction_15 rfl ?_
      refine gq_lrem dX4_fraction_17 h (fun h => ?_)
      refine gr_lstore (lv' := [some (.ref 38), some (.long a1), none, some (.long a3), none, some (.long v5), none, some (.long v7), none, some (.long (v5 - v5 / v7 * v7)), none]) dX4_fraction_18 (by decide) rfl ?_
      refine gr_lload dX4_fraction_20 rfl ?_
      refine gr_lstore (lv' := [some (.ref 38), some (.long a1), none, some (.long a3), none, some (.long v7), none, some (.long v7), none, some (.long (v5 - v5 / v7 * v7)), none]) dX4_fraction_22 (by decide) rfl ?_
      refine gr_lload dX4_fraction_24 rfl ?_
      refine gr_lstore (lv' := [some (.ref 38), some (.long a1), none, some (.long a3), none, some (.long v7), none, some (.long (v5 - v5 / v7 * v7)), none, some (.long (v5 - v5 / v7 * v7)), none]) dX4_fraction_26 (by decide) rfl ?_
      refine gr_goto (tgt := 6) dX4_fraction_28 (by decide) ?_
      refine gn_wkn [true, true, false, true, false, true, false, true, false, false, false] rfl ?_
      exact ih _ _ h
def f_X4_fraction (n : Nat) (m : gn_M) (p0 : Int64) (p1 : Int64) : Option (Int32 × gn_M) := L_X4_fraction_6 n m p0 p1 (fun (e1 : Int64) => gn_dvL e1 (gn_pfL m 38 3 (p0 / e1) (fun m2 => gn_dvL e1 (gn_pfL m2 38 4 (p1 / e1) (fun m3 => some ((1 : Int32), m3)))))) n p0 p1
set_option maxRecDepth 100000 in
set_option maxHeartbeats 4000000 in
theorem c_X4_fraction {n : Nat} {m : gn_M} {p0 : Int64} {p1 : Int64} {v : Int32 × gn_M} (h : f_X4_fraction n m p0 p1 = some v) : gn_Cl yX4_fraction cX4_fraction 11 (some .int) 0 0 [.ref 38, .long p0, .long p1] m (some (.int v.1)) v.2 := by
  rw [f_X4_fraction] at h
  refine gn_met (lv := [some (.ref 38), some (.long p0), none, some (.long p1), none, none, none, none, none, none, none]) pl_X4 rfl rfl (Nat.le_of_ble_eq_true rfl) ?_
  refine gr_lload_n dX4_fraction_0 rfl rfl ?_
  refine gr_lstore (lv' := [some (.ref 38), some (.long p0), none, some (.long p1), none, some (.long p0), none, none, none, none, none]) dX4_fraction_1 (by decide) rfl ?_
  refine gr_lload_n dX4_fraction_3 rfl rfl ?_
  refine gr_lstore (lv' := [some (.ref 38), some (.long p0), none, some (.long p1), none, some (.long p0), none, some (.long p1), none, none, none]) dX4_fraction_4 (by decide) rfl ?_
  refine l_X4_fraction_6 (fun e1 h => ?_) _ _ _ h
  refine gr_aload_n dX4_fraction_31 rfl rfl ?_
  refine gr_lload_n dX4_fraction_32 rfl rfl ?_
  refine gr_lload dX4_fraction_33 rfl ?_
  refine gq_ldiv dX4_fraction_35 h (fun h => ?_)
  refine gq_putL q_38_3 rfl rfl fl_X4_74 dX4_fraction_36 h (fun m2 h => ?_)
  refine gr_aload_n dX4_fraction_39 rfl rfl ?_
  refine gr_lload_n dX4_fraction_40 rfl rfl ?_
  refine gr_lload dX4_fraction_41 rfl ?_
  refine gq_ldiv dX4_fraction_43 h (fun h => ?_)
  refine gq_putL q_38_4 rfl rfl fl_X4_13 dX4_fraction_44 h (fun m3 h => ?_)
  refine gr_iconst dX4_fraction_47 gk_i_1 ?_
  exact gq_retIM dX4_fraction_48 rfl h
def L_X4_odds_35 (n : Nat) (m : gn_M) (a1 : Int32) (k : Int64 → Option (Int32 × gn_M)) : Nat → Int64 → Int32 → Option (Int32 × gn_M)
  | 0, _, _ => none
  | f + 1, v2, v4 => (if v4 < ((1 : Int32) <<< ((m.1 38 10) &&& 31)) then (f_X4_ordersOf n m v4).bind (fun x4 => (if 0 < x4 then (f_X4_waysOf n m v4 a1).bind (fun x5 => L_X4_odds_35 n m a1 k f (v2 + x5) (v4 + (1 : Int32))) else L_X4_odds_35 n m a1 k f (v2 + (0 : Int64)) (v4 + (1 : Int32)))) else k v2)
set_option maxRecDepth 100000 in
set_option maxHeartbeats 4000000 in
theorem l_X4_odds_35 {n : Nat} {m : gn_M} {a1 : Int32} {k : Int64 → Option (Int32 × gn_M)} {v : Int32 × gn_M} (hk : ∀ (e2 : Int64), k e2 = some v → gn_Go RX4 cX4_odds 5 4 89 (some .int) none 75 [some (.ref 38), none, some (.long e2), none, none] [] m (some (.int v.1)) v.2) : ∀ (f : Nat) (v2 : Int64) (v4 : Int32), L_X4_odds_35 n m a1 k f v2 v4 = some v → gn_Go RX4 cX4_odds 5 4 89 (some .int) none 35 [some (.ref 38), some (.int a1), some (.long v2), none, some (.int v4)] [] m (some (.int v.1)) v.2 := by
  intro f
  induction f with
  | zero =>
    intro v2 v4 h
    cases h
  | succ f ih =>
    intro v2 v4 h
    rw [L_X4_odds_35] at h
    refine gr_iload dX4_odds_35 rfl ?_
    refine gr_iconst dX4_odds_37 gk_i_1 ?_
    refine gr_aload_n dX4_odds_38 rfl rfl ?_
    refine gr_getI q_38_10 fl_X4_104 dX4_odds_39 ?_
    refine gr_ishl dX4_odds_42 ?_
    refine gr_icmp_ge (tgt := 75) dX4_odds_43 (by decide) h (fun _ h => ?_) (fun _ h => ?_)
    · refine gr_lload_n dX4_odds_46 rfl rfl ?_
      refine gr_aload_n dX4_odds_47 rfl rfl ?_
      refine gr_iload dX4_odds_48 rfl ?_
      obtain ⟨x4, hx4, h⟩ := gn_bd h
      refine gc_VI (c_X4_ordersOf hx4) my_X4_ordersOf mv_X4_ordersOf ob_38 ml_X4_175 rfl rfl ⟨Nat.le_of_ble_eq_true rfl, Nat.le_of_ble_eq_true rfl⟩ (Nat.le_of_ble_eq_true rfl) dX4_odds_50 (fun fx4 => ?_)
      refine gr_if_le (tgt := 66) dX4_odds_53 (by decide) h (fun _ h => ?_) (fun _ h => ?_)
      · refine gr_aload_n dX4_odds_56 rfl rfl ?_
        refine gr_iload dX4_odds_57 rfl ?_
        refine gr_iload_n dX4_odds_59 rfl rfl ?_
        obtain ⟨x5, hx5, h⟩ := gn_bd h
        refine gc_VL (c_X4_waysOf hx5) my_X4_waysOf mv_X4_waysOf ob_38 ml_X4_221 rfl rfl ⟨Nat.le_of_ble_eq_true rfl, Nat.le_of_ble_eq_true rfl⟩ (Nat.le_of_ble_eq_true rfl) dX4_odds_60 (fun fx5 => ?_)
        refine gr_goto (tgt := 67) dX4_odds_63 (by decide) ?_
        refine gr_ladd dX4_odds_67 ?_
        refine gr_lstore_n (lv' := [some (.ref 38), some (.int a1), some (.long (v2 + x5)), none, some (.int v4)]) dX4_odds_68 rfl (by decide) rfl ?_
        refine gr_iinc (lv' := [some (.ref 38), some (.int a1), some (.long (v2 + x5)), none, some (.int (v4 + (1 : Int32)))]) dX4_odds_69 rfl gk_i_1 (by decide) rfl ?_
        refine gr_goto (tgt := 35) dX4_odds_72 (by decide) ?_
        exact ih _ _ h
      · refine gr_lconst dX4_odds_66 gk_l_0 ?_
        refine gr_ladd dX4_odds_67 ?_
        refine gr_lstore_n (lv' := [some (.ref 38), some (.int a1), some (.long (v2 + (0 : Int64))), none, some (.int v4)]) dX4_odds_68 rfl (by decide) rfl ?_
        refine gr_iinc (lv' := [some (.ref 38), some (.int a1), some (.long (v2 + (0 : Int64))), none, some (.int (v4 + (1 : Int32)))]) dX4_odds_69 rfl gk_i_1 (by decide) rfl ?_
        refine gr_goto (tgt := 35) dX4_odds_72 (by decide) ?_
        exact ih _ _ h
    · refine gn_wkn [true, false, true, false, false] rfl ?_
      exact hk _ h
def f_X4_odds (n : Nat) (m : gn_M) (p0 : Int32) : Option (Int32 × gn_M) := (f_X4_in p0 (0 : Int32) (12 : Int32)).bind (fun x1 => (if x1 = 0 then some ((-1 : Int32), m) else (if (m.1 38 10) = 0 then some ((-4 : Int32), m) else (f_X4_tellNames n m).bind (fun x2 => (f_X4_tellWays n x2).bind (fun x3 => L_X4_odds_35 n x3 p0 (fun (e6 : Int64) => (f_X4_allWays n x3).bind (fun x7 => (f_X4_fraction n x3 e6 x7).bind (fun x8 => some (x8.1, x8.2)))) n (0 : Int64) (0 : Int32))))))
set_option maxRecDepth 100000 in
set_option maxHeartbeats 4000000 in
theorem c_X4_odds {n : Nat} {m : gn_M} {p0 : Int32} {v : Int32 × gn_M} (h : f_X4_odds n m p0 = some v) : gn_Cl yX4_odds cX4_odds 5 (some .int) 4 89 [.ref 38, .int p0] m (some (.int v.1)) v.2 := by
  rw [f_X4_odds] at h
  refine gn_met (lv := [some (.ref 38), some (.int p0), none, none, none]) pl_X4 rfl rfl (Nat.le_of_ble_eq_true rfl) ?_
  refine gr_iload_n dX4_odds_0 rfl rfl ?_
  refine gr_iconst dX4_odds_1 gk_i_0 ?_
  refine gr_bipush dX4_odds_2 gk_b_12 ?_
  obtain ⟨x1, hx1, h⟩ := gn_bd h
  refine gc_SI (c_X4_in hx1) my_X4_in ms_X4_in ml_X4_77 rfl rfl ⟨Nat.le_of_ble_eq_true rfl, Nat.le_of_ble_eq_true rfl⟩ (Nat.le_of_ble_eq_true rfl) dX4_odds_4 (fun fx1 => ?_)
  refine gr_if_ne (tgt := 12) dX4_odds_7 (by decide) h (fun _ h => ?_) (fun _ h => ?_)
  · refine gr_iconst dX4_odds_10 gk_i_m1 ?_
    exact gq_retIM dX4_odds_11 rfl h
  · refine gr_aload_n dX4_odds_12 rfl rfl ?_
    refine gr_getI q_38_10 fl_X4_104 dX4_odds_13 ?_
    refine gr_if_ne (tgt := 22) dX4_odds_16 (by decide) h (fun _ h => ?_) (fun _ h => ?_)
    · refine gr_bipush dX4_odds_19 gk_b_m4 ?_
      exact gq_retIM dX4_odds_21 rfl h
    · refine gr_aload_n dX4_odds_22 rfl rfl ?_
      obtain ⟨x2, hx2, h⟩ := gn_bd h
      refine gc_V0 (c_X4_tellNames hx2) my_X4_tellNames mv_X4_tellNames ob_38 ml_X4_181 rfl rfl ⟨Nat.le_of_ble_eq_true rfl, Nat.le_of_ble_eq_true rfl⟩ (Nat.le_of_ble_eq_true rfl) dX4_odds_23 (fun fx2 => ?_)
      refine gr_aload_n dX4_odds_26 rfl rfl ?_
      obtain ⟨x3, hx3, h⟩ := gn_bd h
      refine gc_V0 (c_X4_tellWays hx3) my_X4_tellWays mv_X4_tellWays ob_38 ml_X4_190 rfl rfl ⟨Nat.le_of_ble_eq_true rfl, Nat.le_of_ble_eq_true rfl⟩ (Nat.le_of_ble_eq_true rfl) dX4_odds_27 (fun fx3 => ?_)
      refine gr_lconst dX4_odds_30 gk_l_0 ?_
      refine gr_lstore_n (lv' := [some (.ref 38), some (.int p0), some (.long (0 : Int64)), none, none]) dX4_odds_31 rfl (by decide) rfl ?_
      refine gr_iconst dX4_odds_32 gk_i_0 ?_
      refine gr_istore (lv' := [some (.ref 38), some (.int p0), some (.long (0 : Int64)), none, some (.int (0 : Int32))]) dX4_odds_33 (by decide) rfl ?_
      refine l_X4_odds_35 (fun e6 h => ?_) _ _ _ h
      refine gr_aload_n dX4_odds_75 rfl rfl ?_
      refine gr_lload_n dX4_odds_76 rfl rfl ?_
      refine gr_aload_n dX4_odds_77 rfl rfl ?_
      obtain ⟨x7, hx7, h⟩ := gn_bd h
      refine gc_VL (c_X4_allWays hx7) my_X4_allWays mv_X4_allWays ob_38 ml_X4_225 rfl rfl ⟨Nat.le_of_ble_eq_true rfl, Nat.le_of_ble_eq_true rfl⟩ (Nat.le_of_ble_eq_true rfl) dX4_odds_78 (fun fx7 => ?_)
      obtain ⟨x8, hx8, h⟩ := gn_bd h
      refine gc_VI (c_X4_fraction hx8) my_X4_fraction mv_X4_fraction ob_38 ml_X4_229 rfl rfl ⟨Nat.le_of_ble_eq_true rfl, Nat.le_of_ble_eq_true rfl⟩ (Nat.le_of_ble_eq_true rfl) dX4_odds_81 (fun fx8 => ?_)
      exact gq_retIM dX4_odds_84 rfl h
def L_X4_mid_35 (n : Nat) (m : gn_M) (a1 : Int32) (k : Int64 → Option (Int32 × gn_M)) : Nat → Int64 → Int32 → Option (Int32 × gn_M)
  | 0, _, _ => none
  | f + 1, v2, v4 => (if v4 < ((1 : Int32) <<< ((m.1 38 10) &&& 31)) then (f_X4_waysOf n m v4 a1).bind (fun x4 => (f_X4_mostOf n m v4).bind (fun x5 => L_X4_mid_35 n m a1 k f (v2 + (x4 * x5.toInt64)) (v4 + (1 : Int32)))) else k v2)
set_option maxRecDepth 100000 in
set_option maxHeartbeats 4000000 in
theorem l_X4_mid_35 {n : Nat} {m : gn_M} {a1 : Int32} {k : Int64 → Option (Int32 × gn_M)} {v : Int32 × gn_M} (hk : ∀ (e2 : Int64), k e2 = some v → gn_Go RX4 cX4_mid 5 4 89 (some .int) none 70 [some (.ref 38), none, some (.long e2), none, none] [] m (some (.int v.1)) v.2) : ∀ (f : Nat) (v2 : Int64) (v4 : Int32), L_X4_mid_35 n m a1 k f v2 v4 = some v → gn_Go RX4 cX4_mid 5 4 89 (some .int) none 35 [some (.ref 38), some (.int a1), some (.long v2), none, some (.int v4)] [] m (some (.int v.1)) v.2 := by
  intro f
  induction f with
  | zero =>
    intro v2 v4 h
    cases h
  | succ f ih =>
    intro v2 v4 h
    rw [L_X4_mid_35] at h
    refine gr_iload dX4_mid_35 rfl ?_
    refine gr_iconst dX4_mid_37 gk_i_1 ?_
    refine gr_aload_n dX4_mid_38 rfl rfl ?_
    refine gr_getI q_38_10 fl_X4_104 dX4_mid_39 ?_
    refine gr_ishl dX4_mid_42 ?_
    refine gr_icmp_ge (tgt := 70) dX4_mid_43 (by decide) h (fun _ h => ?_) (fun _ h => ?_)
    · refine gr_lload_n dX4_mid_46 rfl rfl ?_
      refine gr_aload_n dX4_mid_47 rfl rfl ?_
      refine gr_iload dX4_mid_48 rfl ?_
      refine gr_iload_n dX4_mid_50 rfl rfl ?_
      obtain ⟨x4, hx4, h⟩ := gn_bd h
      refine gc_VL (c_X4_waysOf hx4) my_X4_waysOf mv_X4_waysOf ob_38 ml_X4_221 rfl rfl ⟨Nat.le_of_ble_eq_true rfl, Nat.le_of_ble_eq_true rfl⟩ (Nat.le_of_ble_eq_true rfl) dX4_mid_51 (fun fx4 => ?_)
      refine gr_aload_n dX4_mid_54 rfl rfl ?_
      refine gr_iload dX4_mid_55 rfl ?_
      obtain ⟨x5, hx5, h⟩ := gn_bd h
      refine gc_VI (c_X4_mostOf hx5) my_X4_mostOf mv_X4_mostOf ob_38 ml_X4_210 rfl rfl ⟨Nat.le_of_ble_eq_true rfl, Nat.le_of_ble_eq_true rfl⟩ (Nat.le_of_ble_eq_true rfl) dX4_mid_57 (fun fx5 => ?_)
      refine gr_i2l dX4_mid_60 ?_
      refine gr_lmul dX4_mid_61 ?_
      refine gr_ladd dX4_mid_62 ?_
      refine gr_lstore_n (lv' := [some (.ref 38), some (.int a1), some (.long (v2 + (x4 * x5.toInt64))), none, some (.int v4)]) dX4_mid_63 rfl (by decide) rfl ?_
      refine gr_iinc (lv' := [some (.ref 38), some (.int a1), some (.long (v2 + (x4 * x5.toInt64))), none, some (.int (v4 + (1 : Int32)))]) dX4_mid_64 rfl gk_i_1 (by decide) rfl ?_
      refine gr_goto (tgt := 35) dX4_mid_67 (by decide) ?_
      exact ih _ _ h
    · refine gn_wkn [true, false, true, false, false] rfl ?_
      exact hk _ h
def f_X4_mid (n : Nat) (m : gn_M) (p0 : Int32) : Option (Int32 × gn_M) := (f_X4_in p0 (0 : Int32) (12 : Int32)).bind (fun x1 => (if x1 = 0 then some ((-1 : Int32), m) else (if (m.1 38 10) = 0 then some ((-4 : Int32), m) else (f_X4_tellNames n m).bind (fun x2 => (f_X4_tellWays n x2).bind (fun x3 => L_X4_mid_35 n x3 p0 (fun (e6 : Int64) => (f_X4_allWays n x3).bind (fun x7 => (f_X4_fraction n x3 e6 x7).bind (fun x8 => some (x8.1, x8.2)))) n (0 : Int64) (0 : Int32))))))
set_option maxRecDepth 100000 in
set_option maxHeartbeats 4000000 in
theorem c_X4_mid {n : Nat} {m : gn_M} {p0 : Int32} {v : Int32 × gn_M} (h : f_X4_mid n m p0 = some v) : gn_Cl yX4_mid cX4_mid 5 (some .int) 4 89 [.ref 38, .int p0] m (some (.int v.1)) v.2 := by
  rw [f_X4_mid] at h
  refine gn_met (lv := [some (.ref 38), some (.int p0), none, none, none]) pl_X4 rfl rfl (Nat.le_of_ble_eq_true rfl) ?_
  refine gr_iload_n dX4_mid_0 rfl rfl ?_
  refine gr_iconst dX4_mid_1 gk_i_0 ?_
  refine gr_bipush dX4_mid_2 gk_b_12 ?_
  obtain ⟨x1, hx1, h⟩ := gn_bd h
  refine gc_SI (c_X4_in hx1) my_X4_in ms_X4_in ml_X4_77 rfl rfl ⟨Nat.le_of_ble_eq_true rfl, Nat.le_of_ble_eq_true rfl⟩ (Nat.le_of_ble_eq_true rfl) dX4_mid_4 (fun fx1 => ?_)
  refine gr_if_ne (tgt := 12) dX4_mid_7 (by decide) h (fun _ h => ?_) (fun _ h => ?_)
  · refine gr_iconst dX4_mid_10 gk_i_m1 ?_
    exact gq_retIM dX4_mid_11 rfl h
  · refine gr_aload_n dX4_mid_12 rfl rfl ?_
    refine gr_getI q_38_10 fl_X4_104 dX4_mid_13 ?_
    refine gr_if_ne (tgt := 22) dX4_mid_16 (by decide) h (fun _ h => ?_) (fun _ h => ?_)
    · refine gr_bipush dX4_mid_19 gk_b_m4 ?_
      exact gq_retIM dX4_mid_21 rfl h
    · refine gr_aload_n dX4_mid_22 rfl rfl ?_
      obtain ⟨x2, hx2, h⟩ := gn_bd h
      refine gc_V0 (c_X4_tellNames hx2) my_X4_tellNames mv_X4_tellNames ob_38 ml_X4_181 rfl rfl ⟨Nat.le_of_ble_eq_true rfl, Nat.le_of_ble_eq_true rfl⟩ (Nat.le_of_ble_eq_true rfl) dX4_mid_23 (fun fx2 => ?_)
      refine gr_aload_n dX4_mid_26 rfl rfl ?_
      obtain ⟨x3, hx3, h⟩ := gn_bd h
      refine gc_V0 (c_X4_tellWays hx3) my_X4_tellWays mv_X4_tellWays ob_38 ml_X4_190 rfl rfl ⟨Nat.le_of_ble_eq_true rfl, Nat.le_of_ble_eq_true rfl⟩ (Nat.le_of_ble_eq_true rfl) dX4_mid_27 (fun fx3 => ?_)
      refine gr_lconst dX4_mid_30 gk_l_0 ?_
      refine gr_lstore_n (lv' := [some (.ref 38), some (.int p0), some (.long (0 : Int64)), none, none]) dX4_mid_31 rfl (by decide) rfl ?_
      refine gr_iconst dX4_mid_32 gk_i_0 ?_
      refine gr_istore (lv' := [some (.ref 38), some (.int p0), some (.long (0 : Int64)), none, some (.int (0 : Int32))]) dX4_mid_33 (by decide) rfl ?_
      refine l_X4_mid_35 (fun e6 h => ?_) _ _ _ h
      refine gr_aload_n dX4_mid_70 rfl rfl ?_
      refine gr_lload_n dX4_mid_71 rfl rfl ?_
      refine gr_aload_n dX4_mid_72 rfl rfl ?_
      obtain ⟨x7, hx7, h⟩ := gn_bd h
      refine gc_VL (c_X4_allWays hx7) my_X4_allWays mv_X4_allWays ob_38 ml_X4_225 rfl rfl ⟨Nat.le_of_ble_eq_true rfl, Nat.le_of_ble_eq_true rfl⟩ (Nat.le_of_ble_eq_true rfl) dX4_mid_73 (fun fx7 => ?_)
      obtain ⟨x8, hx8, h⟩ := gn_bd h
      refine gc_VI (c_X4_fraction hx8) my_X4_fraction mv_X4_fraction ob_38 ml_X4_229 rfl rfl ⟨Nat.le_of_ble_eq_true rfl, Nat.le_of_ble_eq_true rfl⟩ (Nat.le_of_ble_eq_true rfl) dX4_mid_76 (fun fx8 => ?_)
      exact gq_retIM dX4_mid_79 rfl h
def f_X4_lot (n : Nat) (m : gn_M) (p0 : Int32) (p1 : Int32) (p2 : Int32) : Option (gn_M) := (if p0 = 0 then (if p1 = p2 then some m else (f_X4_isThrough m p1).bind (fun x1 => (if x1 = 0 then (f_X4_isThrough m p2).bind (fun x2 => (if x2 = 0 then (f_X4_meetNow n m p1 p2).bind (fun x3 => some x3.2) else some m)) else some m))) else (if p0 = 1 then gn_rd m 48 410 (((10 : Int32) * (m.1 38 16)) + (9 : Int32)) (fun x4 => (f_X4_isThrough m p1).bind (fun x5 => (if x5 = 0 then (f_X4_tellsOf m p1).bind (fun x6 => gn_wr m 48 410 (((10 : Int32) * (m.1 38 16)) + (9 : Int32)) (x4 ||| x6) (fun m7 => some m7)) else gn_wr m 48 410 (((10 : Int32) * (m.1 38 16)) + (9 : Int32)) (x4 ||| (0 : Int32)) (fun m8 => some m8)))) else (if p0 = 2 then (f_X4_isThrough m p1).bind (fun x9 => gn_jn (fun (j10 : Int32) => (f_X4_tell n m p1 j10).bind (fun x12 => some x12.2)) (fun J11 => (if x9 = 0 then (f_X4_now m (9 : Int32)).bind (fun x13 => J11 x13) else J11 (0 : Int32)))) else (f_X4_isOpen n m p1).bind (fun x14 => (if x14 = 0 then some m else (f_X4_goNow m p1).bind (fun x15 => some x15))))))
set_option maxRecDepth 100000 in
set_option maxHeartbeats 4000000 in
theorem c_X4_lot {n : Nat} {m : gn_M} {p0 : Int32} {p1 : Int32} {p2 : Int32} {v : gn_M} (h : f_X4_lot n m p0 p1 p2 = some v) : gn_Cl yX4_lot cX4_lot 4 none 4 89 [.ref 38, .int p0, .int p1, .int p2] m none v := by
  rw [f_X4_lot] at h
  refine gn_met (lv := [some (.ref 38), some (.int p0), some (.int p1), some (.int p2)]) pl_X4 rfl rfl (Nat.le_of_ble_eq_true rfl) ?_
  refine gr_iload_n dX4_lot_0 rfl rfl ?_
  refine gn_sw h (fun hs0 h => ?_) (fun hs0 h => ?_)
  · refine gr_tsIn (tgt := 28) dX4_lot_1 hs0 (by decide) (by decide) rfl (by decide) ?_
    refine gr_iload_n dX4_lot_28 rfl rfl ?_
    refine gr_iload_n dX4_lot_29 rfl rfl ?_
    refine gr_icmp_eq (tgt := 137) dX4_lot_30 (by decide) h (fun _ h => ?_) (fun _ h => ?_)
    · exact gq_retVM dX4_lot_137 trivial h
    · refine gr_aload_n dX4_lot_33 rfl rfl ?_
      refine gr_iload_n dX4_lot_34 rfl rfl ?_
      obtain ⟨x1, hx1, h⟩ := gn_bd h
      refine gc_VI (c_X4_isThrough hx1) my_X4_isThrough mv_X4_isThrough ob_38 ml_X4_131 rfl rfl ⟨Nat.le_of_ble_eq_true rfl, Nat.le_of_ble_eq_true rfl⟩ (Nat.le_of_ble_eq_true rfl) dX4_lot_35 (fun fx1 => ?_)
      refine gr_if_ne (tgt := 137) dX4_lot_38 (by decide) h (fun _ h => ?_) (fun _ h => ?_)
      · refine gr_aload_n dX4_lot_41 rfl rfl ?_
        refine gr_iload_n dX4_lot_42 rfl rfl ?_
        obtain ⟨x2, hx2, h⟩ := gn_bd h
        refine gc_VI (c_X4_isThrough hx2) my_X4_isThrough mv_X4_isThrough ob_38 ml_X4_131 rfl rfl ⟨Nat.le_of_ble_eq_true rfl, Nat.le_of_ble_eq_true rfl⟩ (Nat.le_of_ble_eq_true rfl) dX4_lot_43 (fun fx2 => ?_)
        refine gr_if_ne (tgt := 137) dX4_lot_46 (by decide) h (fun _ h => ?_) (fun _ h => ?_)
        · refine gr_aload_n dX4_lot_49 rfl rfl ?_
          refine gr_iload_n dX4_lot_50 rfl rfl ?_
          refine gr_iload_n dX4_lot_51 rfl rfl ?_
          obtain ⟨x3, hx3, h⟩ := gn_bd h
          refine gc_VI (c_X4_meetNow hx3) my_X4_meetNow mv_X4_meetNow ob_38 ml_X4_165 rfl rfl ⟨Nat.le_of_ble_eq_true rfl, Nat.le_of_ble_eq_true rfl⟩ (Nat.le_of_ble_eq_true rfl) dX4_lot_52 (fun fx3 => ?_)
          refine gr_pop dX4_lot_55 rfl ?_
          refine gr_goto (tgt := 137) dX4_lot_56 (by decide) ?_
          exact gq_retVM dX4_lot_137 trivial h
        · exact gq_retVM dX4_lot_137 trivial h
      · exact gq_retVM dX4_lot_137 trivial h
  refine gn_sw h (fun hs1 h => ?_) (fun hs1 h => ?_)
  · refine gr_tsIn (tgt := 59) dX4_lot_1 hs1 (by decide) (by decide) rfl (by decide) ?_
    refine gr_aload_n dX4_lot_59 rfl rfl ?_
    refine gr_getR q_38_15 fl_X4_42 dX4_lot_60 ?_
    refine gr_bipush dX4_lot_63 gk_b_10 ?_
    refine gr_aload_n dX4_lot_65 rfl rfl ?_
    refine gr_getI q_38_16 fl_X4_107 dX4_lot_66 ?_
    refine gr_imul dX4_lot_69 ?_
    refine gr_bipush dX4_lot_70 gk_b_9 ?_
    refine gr_iadd dX4_lot_72 ?_
    refine gr_dup2 dX4_lot_73 rfl rfl ?_
    refine gq_iaload s_48 dX4_lot_74 h (fun x4 h => ?_)
    refine gr_aload_n dX4_lot_75 rfl rfl ?_
    refine gr_iload_n dX4_lot_76 rfl rfl ?_
    obtain ⟨x5, hx5, h⟩ := gn_bd h
    refine gc_VI (c_X4_isThrough hx5) my_X4_isThrough mv_X4_isThrough ob_38 ml_X4_131 rfl rfl ⟨Nat.le_of_ble_eq_true rfl, Nat.le_of_ble_eq_true rfl⟩ (Nat.le_of_ble_eq_true rfl) dX4_lot_77 (fun fx5 => ?_)
    refine gr_if_eq (tgt := 87) dX4_lot_80 (by decide) h (fun _ h => ?_) (fun _ h => ?_)
    · refine gr_aload_n dX4_lot_87 rfl rfl ?_
      refine gr_iload_n dX4_lot_88 rfl rfl ?_
      obtain ⟨x6, hx6, h⟩ := gn_bd h
      refine gc_VI (c_X4_tellsOf hx6) my_X4_tellsOf mv_X4_tellsOf ob_38 ml_X4_140 rfl rfl ⟨Nat.le_of_ble_eq_true rfl, Nat.le_of_ble_eq_true rfl⟩ (Nat.le_of_ble_eq_true rfl) dX4_lot_89 (fun fx6 => ?_)
      refine gr_ior dX4_lot_92 ?_
      refine gq_iastore s_48 dX4_lot_93 h (fun m7 h => ?_)
      refine gr_goto (tgt := 137) dX4_lot_94 (by decide) ?_
      exact gq_retVM dX4_lot_137 trivial h
    · refine gr_iconst dX4_lot_83 gk_i_0 ?_
      refine gr_goto (tgt := 92) dX4_lot_84 (by decide) ?_
      refine gr_ior dX4_lot_92 ?_
      refine gq_iastore s_48 dX4_lot_93 h (fun m8 h => ?_)
      refine gr_goto (tgt := 137) dX4_lot_94 (by decide) ?_
      exact gq_retVM dX4_lot_137 trivial h
  refine gn_sw h (fun hs2 h => ?_) (fun hs2 h => ?_)
  · refine gr_tsIn (tgt := 97) dX4_lot_1 hs2 (by decide) (by decide) rfl (by decide) ?_
    refine gr_aload_n dX4_lot_97 rfl rfl ?_
    refine gr_iload_n dX4_lot_98 rfl rfl ?_
    refine gr_aload_n dX4_lot_99 rfl rfl ?_
    refine gr_iload_n dX4_lot_100 rfl rfl ?_
    obtain ⟨x9, hx9, h⟩ := gn_bd h
    refine gc_VI (c_X4_isThrough hx9) my_X4_isThrough mv_X4_isThrough ob_38 ml_X4_131 rfl rfl ⟨Nat.le_of_ble_eq_true rfl, Nat.le_of_ble_eq_true rfl⟩ (Nat.le_of_ble_eq_true rfl) dX4_lot_101 (fun fx9 => ?_)
    refine gn_jnE (P := fun (j10 : Int32) => gn_Go RX4 cX4_lot 4 4 89 none none 117 [none, none, none, none] [.int j10, .int p1, .ref 38] m none v) h (fun j10 h => ?_) (fun J11 hJ11 h => ?_)
    · obtain ⟨x12, hx12, h⟩ := gn_bd h
      refine gc_VI (c_X4_tell hx12) my_X4_tell mv_X4_tell ob_38 ml_X4_159 rfl rfl ⟨Nat.le_of_ble_eq_true rfl, Nat.le_of_ble_eq_true rfl⟩ (Nat.le_of_ble_eq_true rfl) dX4_lot_117 (fun fx12 => ?_)
      refine gr_pop dX4_lot_120 rfl ?_
      refine gr_goto (tgt := 137) dX4_lot_121 (by decide) ?_
      exact gq_retVM dX4_lot_137 trivial h
    · refine gr_if_eq (tgt := 111) dX4_lot_104 (by decide) h (fun _ h => ?_) (fun _ h => ?_)
      · refine gr_aload_n dX4_lot_111 rfl rfl ?_
        refine gr_bipush dX4_lot_112 gk_b_9 ?_
        obtain ⟨x13, hx13, h⟩ := gn_bd h
        refine gc_VI (c_X4_now hx13) my_X4_now mv_X4_now ob_38 ml_X4_110 rfl rfl ⟨Nat.le_of_ble_eq_true rfl, Nat.le_of_ble_eq_true rfl⟩ (Nat.le_of_ble_eq_true rfl) dX4_lot_114 (fun fx13 => ?_)
        refine gn_wkn [false, false, false, false] rfl ?_
        exact hJ11 x13 h
      · refine gr_iconst dX4_lot_107 gk_i_0 ?_
        refine gr_goto (tgt := 117) dX4_lot_108 (by decide) ?_
        refine gn_wkn [false, false, false, false] rfl ?_
        exact hJ11 (0 : Int32) h
  refine gr_tsOut (tgt := 124) dX4_lot_1 (by have := gn_out (x := p0) 3 0 (fun j hj => match j, hj with | 0, _ => hs0 | 1, _ => hs1 | 2, _ => hs2 | j + 3, hj => absurd hj (by omega)); omega) (by decide) ?_
  refine gr_aload_n dX4_lot_124 rfl rfl ?_
  refine gr_iload_n dX4_lot_125 rfl rfl ?_
  obtain ⟨x14, hx14, h⟩ := gn_bd h
  refine gc_VI (c_X4_isOpen hx14) my_X4_isOpen mv_X4_isOpen ob_38 ml_X4_137 rfl rfl ⟨Nat.le_of_ble_eq_true rfl, Nat.le_of_ble_eq_true rfl⟩ (Nat.le_of_ble_eq_true rfl) dX4_lot_126 (fun fx14 => ?_)
  refine gr_if_eq (tgt := 137) dX4_lot_129 (by decide) h (fun _ h => ?_) (fun _ h => ?_)
  · exact gq_retVM dX4_lot_137 trivial h
  · refine gr_aload_n dX4_lot_132 rfl rfl ?_
    refine gr_iload_n dX4_lot_133 rfl rfl ?_
    obtain ⟨x15, hx15, h⟩ := gn_bd h
    refine gc_V0 (c_X4_goNow hx15) my_X4_goNow mv_X4_goNow ob_38 ml_X4_168 rfl rfl ⟨Nat.le_of_ble_eq_true rfl, Nat.le_of_ble_eq_true rfl⟩ (Nat.le_of_ble_eq_true rfl) dX4_lot_134 (fun fx15 => ?_)
    exact gq_retVM dX4_lot_137 trivial h
def L_X4_lots_52 (n : Nat) (a1 : Int32) (k : gn_M → Option (Int32 × gn_M)) : Nat → Int64 → Int32 → gn_M → Option (Int32 × gn_M)
  | 0, _, _, _ => none
  | f + 1, v3, v5, m => (if v5 < a1 then (f_X4_begin n m).bind (fun x3 => gn_dvL (x3.1 38 10).toInt64 (gn_dvL (x3.1 38 10).toInt64 ((f_X4_lot n x3 (((v3 * (48271 : Int64)) - (v3 * (48271 : Int64)) / (2147483647 : Int64) * (2147483647 : Int64)) - ((v3 * (48271 : Int64)) - (v3 * (48271 : Int64)) / (2147483647 : Int64) * (2147483647 : Int64)) / (4 : Int64) * (4 : Int64)).toInt32 ((((v3 * (48271 : Int64)) - (v3 * (48271 : Int64)) / (2147483647 : Int64) * (2147483647 : Int64)) / (8 : Int64)) - (((v3 * (48271 : Int64)) - (v3 * (48271 : Int64)) / (2147483647 : Int64) * (2147483647 : Int64)) / (8 : Int64)) / (x3.1 38 10).toInt64 * (x3.1 38 10).toInt64).toInt32 ((((v3 * (48271 : Int64)) - (v3 * (48271 : Int64)) / (2147483647 : Int64) * (2147483647 : Int64)) / (64 : Int64)) - (((v3 * (48271 : Int64)) - (v3 * (48271 : Int64)) / (2147483647 : Int64) * (2147483647 : Int64)) / (64 : Int64)) / (x3.1 38 10).toInt64 * (x3.1 38 10).toInt64).toInt32).bind (fun x4 => L_X4_lots_52 n a1 k f ((v3 * (48271 : Int64)) - (v3 * (48271 : Int64)) / (2147483647 : Int64) * (2147483647 : Int64)) (v5 + (1 : Int32)) x4)))) else k m)
set_option maxRecDepth 100000 in
set_option maxHeartbeats 4000000 in
theorem l_X4_lots_52 {n : Nat} {a1 : Int32} {k : gn_M → Option (Int32 × gn_M)} {v : Int32 × gn_M} (hk : ∀ (m1 : gn_M), k m1 = some v → gn_Go RX4 cX4_lots 6 5 112 (some .int) none 112 [some (.ref 38), none, none, none, none, none] [] m1 (some (.int v.1)) v.2) : ∀ (f : Nat) (v3 : Int64) (v5 : Int32) (m : gn_M), L_X4_lots_52 n a1 k f v3 v5 m = some v → gn_Go RX4 cX4_lots 6 5 112 (some .int) none 52 [some (.ref 38), some (.int a1), none, some (.long v3), none, some (.int v5)] [] m (some (.int v.1)) v.2 := by
  intro f
  induction f with
  | zero =>
    intro v3 v5 m h
    cases h
  | succ f ih =>
    intro v3 v5 m h
    rw [L_X4_lots_52] at h
    refine gr_iload dX4_lots_52 rfl ?_
    refine gr_iload_n dX4_lots_54 rfl rfl ?_
    refine gr_icmp_ge (tgt := 112) dX4_lots_55 (by decide) h (fun _ h => ?_) (fun _ h => ?_)
    · refine gr_lload_n dX4_lots_58 rfl rfl ?_
      refine gr_ldc2 kl_X4_234 dX4_lots_59 ?_
      refine gr_lmul dX4_lots_62 ?_
      refine gr_ldc2 kl_X4_236 dX4_lots_63 ?_
      refine gr_lrem dX4_lots_66 (by decide) ?_
      refine gr_lstore_n (lv' := [some (.ref 38), some (.int a1), none, some (.long ((v3 * (48271 : Int64)) - (v3 * (48271 : Int64)) / (2147483647 : Int64) * (2147483647 : Int64))), none, some (.int v5)]) dX4_lots_67 rfl (by decide) rfl ?_
      refine gr_aload_n dX4_lots_68 rfl rfl ?_
      obtain ⟨x3, hx3, h⟩ := gn_bd h
      refine gc_V0 (c_X4_begin hx3) my_X4_begin mv_X4_begin ob_38 ml_X4_162 rfl rfl ⟨Nat.le_of_ble_eq_true rfl, Nat.le_of_ble_eq_true rfl⟩ (Nat.le_of_ble_eq_true rfl) dX4_lots_69 (fun fx3 => ?_)
      refine gr_aload_n dX4_lots_72 rfl rfl ?_
      refine gr_lload_n dX4_lots_73 rfl rfl ?_
      refine gr_ldc2 kl_X4_238 dX4_lots_74 ?_
      refine gr_lrem dX4_lots_77 (by decide) ?_
      refine gr_l2i dX4_lots_78 ?_
      refine gr_lload_n dX4_lots_79 rfl rfl ?_
      refine gr_ldc2 kl_X4_240 dX4_lots_80 ?_
      refine gr_ldiv dX4_lots_83 (by decide) ?_
      refine gr_aload_n dX4_lots_84 rfl rfl ?_
      refine gr_getI q_38_10 fl_X4_104 dX4_lots_85 ?_
      refine gr_i2l dX4_lots_88 ?_
      refine gq_lrem dX4_lots_89 h (fun h => ?_)
      refine gr_l2i dX4_lots_90 ?_
      refine gr_lload_n dX4_lots_91 rfl rfl ?_
      refine gr_ldc2 kl_X4_242 dX4_lots_92 ?_
      refine gr_ldiv dX4_lots_95 (by decide) ?_
      refine gr_aload_n dX4_lots_96 rfl rfl ?_
      refine gr_getI q_38_10 fl_X4_104 dX4_lots_97 ?_
      refine gr_i2l dX4_lots_100 ?_
      refine gq_lrem dX4_lots_101 h (fun h => ?_)
      refine gr_l2i dX4_lots_102 ?_
      obtain ⟨x4, hx4, h⟩ := gn_bd h
      refine gc_V0 (c_X4_lot hx4) my_X4_lot mv_X4_lot ob_38 ml_X4_244 rfl rfl ⟨Nat.le_of_ble_eq_true rfl, Nat.le_of_ble_eq_true rfl⟩ (Nat.le_of_ble_eq_true rfl) dX4_lots_103 (fun fx4 => ?_)
      refine gr_iinc (lv' := [some (.ref 38), some (.int a1), none, some (.long ((v3 * (48271 : Int64)) - (v3 * (48271 : Int64)) / (2147483647 : Int64) * (2147483647 : Int64))), none, some (.int (v5 + (1 : Int32)))]) dX4_lots_106 rfl gk_i_1 (by decide) rfl ?_
      refine gr_goto (tgt := 52) dX4_lots_109 (by decide) ?_
      exact ih _ _ _ h
    · refine gn_wkn [true, false, false, false, false, false] rfl ?_
      exact hk _ h
def f_X4_lots (n : Nat) (m : gn_M) (p0 : Int32) (p1 : Int32) : Option (Int32 × gn_M) := (f_X4_in p0 (1 : Int32) (20 : Int32)).bind (fun x1 => (if x1 = 0 then some ((-1 : Int32), m) else (f_X4_in p1 (1 : Int32) (2147483646 : Int32)).bind (fun x2 => (if x2 = 0 then some ((-1 : Int32), m) else (if (m.1 38 10) = 0 then some ((-4 : Int32), m) else (if (40 : Int32) < ((m.1 38 16) + p0) then some ((-2 : Int32), m) else L_X4_lots_52 n p0 (fun (m5 : gn_M) => (f_X4_now m5 (7 : Int32)).bind (fun x6 => (f_X4_bitsOf n x6).bind (fun x7 => some (x7, m5)))) n p1.toInt64 (0 : Int32) m))))))
set_option maxRecDepth 100000 in
set_option maxHeartbeats 4000000 in
theorem c_X4_lots {n : Nat} {m : gn_M} {p0 : Int32} {p1 : Int32} {v : Int32 × gn_M} (h : f_X4_lots n m p0 p1 = some v) : gn_Cl yX4_lots cX4_lots 6 (some .int) 5 112 [.ref 38, .int p0, .int p1] m (some (.int v.1)) v.2 := by
  rw [f_X4_lots] at h
  refine gn_met (lv := [some (.ref 38), some (.int p0), some (.int p1), none, none, none]) pl_X4 rfl rfl (Nat.le_of_ble_eq_true rfl) ?_
  refine gr_iload_n dX4_lots_0 rfl rfl ?_
  refine gr_iconst dX4_lots_1 gk_i_1 ?_
  refine gr_bipush dX4_lots_2 gk_b_20 ?_
  obtain ⟨x1, hx1, h⟩ := gn_bd h
  refine gc_SI (c_X4_in hx1) my_X4_in ms_X4_in ml_X4_77 rfl rfl ⟨Nat.le_of_ble_eq_true rfl, Nat.le_of_ble_eq_true rfl⟩ (Nat.le_of_ble_eq_true rfl) dX4_lots_4 (fun fx1 => ?_)
  refine gr_if_eq (tgt := 20) dX4_lots_7 (by decide) h (fun _ h => ?_) (fun _ h => ?_)
  · refine gr_iconst dX4_lots_20 gk_i_m1 ?_
    exact gq_retIM dX4_lots_21 rfl h
  · refine gr_iload_n dX4_lots_10 rfl rfl ?_
    refine gr_iconst dX4_lots_11 gk_i_1 ?_
    refine gr_ldc kc_X4_233 dX4_lots_12 ?_
    obtain ⟨x2, hx2, h⟩ := gn_bd h
    refine gc_SI (c_X4_in hx2) my_X4_in ms_X4_in ml_X4_77 rfl rfl ⟨Nat.le_of_ble_eq_true rfl, Nat.le_of_ble_eq_true rfl⟩ (Nat.le_of_ble_eq_true rfl) dX4_lots_14 (fun fx2 => ?_)
    refine gr_if_ne (tgt := 22) dX4_lots_17 (by decide) h (fun _ h => ?_) (fun _ h => ?_)
    · refine gr_iconst dX4_lots_20 gk_i_m1 ?_
      exact gq_retIM dX4_lots_21 rfl h
    · refine gr_aload_n dX4_lots_22 rfl rfl ?_
      refine gr_getI q_38_10 fl_X4_104 dX4_lots_23 ?_
      refine gr_if_ne (tgt := 32) dX4_lots_26 (by decide) h (fun _ h => ?_) (fun _ h => ?_)
      · refine gr_bipush dX4_lots_29 gk_b_m4 ?_
        exact gq_retIM dX4_lots_31 rfl h
      · refine gr_aload_n dX4_lots_32 rfl rfl ?_
        refine gr_getI q_38_16 fl_X4_107 dX4_lots_33 ?_
        refine gr_iload_n dX4_lots_36 rfl rfl ?_
        refine gr_iadd dX4_lots_37 ?_
        refine gr_bipush dX4_lots_38 gk_b_40 ?_
        refine gr_icmp_le (tgt := 46) dX4_lots_40 (by decide) h (fun _ h => ?_) (fun _ h => ?_)
        · refine gr_bipush dX4_lots_43 gk_b_m2 ?_
          exact gq_retIM dX4_lots_45 rfl h
        · refine gr_iload_n dX4_lots_46 rfl rfl ?_
          refine gr_i2l dX4_lots_47 ?_
          refine gr_lstore_n (lv' := [some (.ref 38), some (.int p0), some (.int p1), some (.long p1.toInt64), none, none]) dX4_lots_48 rfl (by decide) rfl ?_
          refine gr_iconst dX4_lots_49 gk_i_0 ?_
          refine gr_istore (lv' := [some (.ref 38), some (.int p0), some (.int p1), some (.long p1.toInt64), none, some (.int (0 : Int32))]) dX4_lots_50 (by decide) rfl ?_
          refine gn_wkn [true, true, false, true, false, true] rfl ?_
          refine l_X4_lots_52 (fun m5 h => ?_) _ _ _ _ h
          refine gr_aload_n dX4_lots_112 rfl rfl ?_
          refine gr_bipush dX4_lots_113 gk_b_7 ?_
          obtain ⟨x6, hx6, h⟩ := gn_bd h
          refine gc_VI (c_X4_now hx6) my_X4_now mv_X4_now ob_38 ml_X4_110 rfl rfl ⟨Nat.le_of_ble_eq_true rfl, Nat.le_of_ble_eq_true rfl⟩ (Nat.le_of_ble_eq_true rfl) dX4_lots_115 (fun fx6 => ?_)
          obtain ⟨x7, hx7, h⟩ := gn_bd h
          refine gc_SI (c_X4_bitsOf hx7) my_X4_bitsOf ms_X4_bitsOf ml_X4_153 rfl rfl ⟨Nat.le_of_ble_eq_true rfl, Nat.le_of_ble_eq_true rfl⟩ (Nat.le_of_ble_eq_true rfl) dX4_lots_118 (fun fx7 => ?_)
          exact gq_retIM dX4_lots_121 rfl h
def f_X4_asked (m : gn_M) : Option (Int32) := some (m.1 38 2)
set_option maxRecDepth 100000 in
set_option maxHeartbeats 4000000 in
theorem c_X4_asked {m : gn_M} {v : Int32} (h : f_X4_asked m = some v) : gn_Cl yX4_asked cX4_asked 1 (some .int) 0 0 [.ref 38] m (some (.int v)) m := by
  rw [f_X4_asked] at h
  refine gn_met (lv := [some (.ref 38)]) pl_X4 rfl rfl (Nat.le_of_ble_eq_true rfl) ?_
  refine gr_aload_n dX4_asked_0 rfl rfl ?_
  refine gr_getI q_38_2 fl_X4_71 dX4_asked_1 ?_
  exact gq_retI dX4_asked_4 rfl h
def f_X4_upper (m : gn_M) : Option (Int64) := some (m.2 38 3)
set_option maxRecDepth 100000 in
set_option maxHeartbeats 4000000 in
theorem c_X4_upper {m : gn_M} {v : Int64} (h : f_X4_upper m = some v) : gn_Cl yX4_upper cX4_upper 1 (some .long) 0 0 [.ref 38] m (some (.long v)) m := by
  rw [f_X4_upper] at h
  refine gn_met (lv := [some (.ref 38)]) pl_X4 rfl rfl (Nat.le_of_ble_eq_true rfl) ?_
  refine gr_aload_n dX4_upper_0 rfl rfl ?_
  refine gr_getL q_38_3 fl_X4_74 dX4_upper_1 ?_
  exact gq_retL dX4_upper_4 trivial h
def f_X4_lower (m : gn_M) : Option (Int64) := some (m.2 38 4)
set_option maxRecDepth 100000 in
set_option maxHeartbeats 4000000 in
theorem c_X4_lower {m : gn_M} {v : Int64} (h : f_X4_lower m = some v) : gn_Cl yX4_lower cX4_lower 1 (some .long) 0 0 [.ref 38] m (some (.long v)) m := by
  rw [f_X4_lower] at h
  refine gn_met (lv := [some (.ref 38)]) pl_X4 rfl rfl (Nat.le_of_ble_eq_true rfl) ?_
  refine gr_aload_n dX4_lower_0 rfl rfl ?_
  refine gr_getL q_38_4 fl_X4_13 dX4_lower_1 ?_
  exact gq_retL dX4_lower_4 trivial h
def L_X4_thereAre_4 (n : Nat) (m : gn_M) (a1 : Int32) (k : Int32 → Option (Int32)) : Nat → Int32 → Int32 → Option (Int32)
  | 0, _, _ => none
  | f + 1, v2, v3 => (if v3 < (6 : Int32) then gn_jn (fun (j1 : Int32) => gn_jn (fun (j3 : Int32) => (if a1 = (9 : Int32) then (if v3 < (3 : Int32) then gn_rd m 50 3 (if v3 < (3 : Int32) then v3 else (0 : Int32)) (fun x6 => (if x6 < 0 then L_X4_thereAre_4 n m a1 k f (((v2 + j1) + j3) + (0 : Int32)) (v3 + (1 : Int32)) else L_X4_thereAre_4 n m a1 k f (((v2 + j1) + j3) + (1 : Int32)) (v3 + (1 : Int32)))) else L_X4_thereAre_4 n m a1 k f (((v2 + j1) + j3) + (0 : Int32)) (v3 + (1 : Int32))) else L_X4_thereAre_4 n m a1 k f (((v2 + j1) + j3) + (0 : Int32)) (v3 + (1 : Int32)))) (fun J4 => (if a1 = (8 : Int32) then (if v3 < (4 : Int32) then gn_rd m 42 4 (if v3 < (4 : Int32) then v3 else (0 : Int32)) (fun x8 => (if x8 < 0 then J4 (0 : Int32) else J4 (1 : Int32))) else J4 (0 : Int32)) else J4 (0 : Int32)))) (fun J2 => (if a1 = (7 : Int32) then gn_rd m 40 6 v3 (fun x9 => (if x9 < 0 then J2 (0 : Int32) else J2 (1 : Int32))) else J2 (0 : Int32))) else k v2)
set_option maxRecDepth 100000 in
set_option maxHeartbeats 4000000 in
theorem l_X4_thereAre_4 {n : Nat} {m : gn_M} {a1 : Int32} {k : Int32 → Option (Int32)} {v : Int32} (hk : ∀ (e2 : Int32), k e2 = some v → gn_Go RX4 cX4_thereAre 4 0 0 (some .int) none 113 [none, none, some (.int e2), none] [] m (some (.int v)) m) : ∀ (f : Nat) (v2 : Int32) (v3 : Int32), L_X4_thereAre_4 n m a1 k f v2 v3 = some v → gn_Go RX4 cX4_thereAre 4 0 0 (some .int) none 4 [some (.ref 38), some (.int a1), some (.int v2), some (.int v3)] [] m (some (.int v)) m := by
  intro f
  induction f with
  | zero =>
    intro v2 v3 h
    cases h
  | succ f ih =>
    intro v2 v3 h
    rw [L_X4_thereAre_4] at h
    refine gr_iload_n dX4_thereAre_4 rfl rfl ?_
    refine gr_bipush dX4_thereAre_5 gk_b_6 ?_
    refine gr_icmp_ge (tgt := 113) dX4_thereAre_7 (by decide) h (fun _ h => ?_) (fun _ h => ?_)
    · refine gr_iload_n dX4_thereAre_10 rfl rfl ?_
      refine gr_iload_n dX4_thereAre_11 rfl rfl ?_
      refine gr_bipush dX4_thereAre_12 gk_b_7 ?_
      refine gn_jnE (P := fun (j1 : Int32) => gn_Go RX4 cX4_thereAre 4 0 0 (some .int) none 31 [some (.ref 38), some (.int a1), none, some (.int v3)] [.int j1, .int v2] m (some (.int v)) m) h (fun j1 h => ?_) (fun J2 hJ2 h => ?_)
      · refine gr_iadd dX4_thereAre_31 ?_
        refine gr_istore_n (lv' := [some (.ref 38), some (.int a1), some (.int (v2 + j1)), some (.int v3)]) dX4_thereAre_32 rfl (by decide) rfl ?_
        refine gr_iload_n dX4_thereAre_33 rfl rfl ?_
        refine gr_iload_n dX4_thereAre_34 rfl rfl ?_
        refine gr_bipush dX4_thereAre_35 gk_b_8 ?_
        refine gn_jnE (P := fun (j3 : Int32) => gn_Go RX4 cX4_thereAre 4 0 0 (some .int) none 68 [some (.ref 38), some (.int a1), none, some (.int v3)] [.int j3, .int (v2 + j1)] m (some (.int v)) m) h (fun j3 h => ?_) (fun J4 hJ4 h => ?_)
        · refine gr_iadd dX4_thereAre_68 ?_
          refine gr_istore_n (lv' := [some (.ref 38), some (.int a1), some (.int ((v2 + j1) + j3)), some (.int v3)]) dX4_thereAre_69 rfl (by decide) rfl ?_
          refine gr_iload_n dX4_thereAre_70 rfl rfl ?_
          refine gr_iload_n dX4_thereAre_71 rfl rfl ?_
          refine gr_bipush dX4_thereAre_72 gk_b_9 ?_
          refine gr_icmp_ne (tgt := 104) dX4_thereAre_74 (by decide) h (fun _ h => ?_) (fun _ h => ?_)
          · refine gr_iload_n dX4_thereAre_77 rfl rfl ?_
            refine gr_iconst dX4_thereAre_78 gk_i_3 ?_
            refine gr_icmp_ge (tgt := 104) dX4_thereAre_79 (by decide) h (fun _ h => ?_) (fun _ h => ?_)
            · refine gr_aload_n dX4_thereAre_82 rfl rfl ?_
              refine gr_getR q_38_18 fl_X4_48 dX4_thereAre_83 ?_
              refine gr_iload_n dX4_thereAre_86 rfl rfl ?_
              refine gr_iconst dX4_thereAre_87 gk_i_3 ?_
              have hJ : ∀ y5 : Int32, y5 = (if v3 < (3 : Int32) then v3 else (0 : Int32)) → gn_Go RX4 cX4_thereAre 4 0 0 (some .int) none 96 [some (.ref 38), some (.int a1), none, some (.int v3)] [.int y5, .ref 50, .int ((v2 + j1) + j3)] m (some (.int v)) m := by
                intro y5 hx
                subst hx
                refine gq_iaload s_50 dX4_thereAre_96 h (fun x6 h => ?_)
                refine gr_if_lt (tgt := 104) dX4_thereAre_97 (by decide) h (fun _ h => ?_) (fun _ h => ?_)
                · refine gr_iconst dX4_thereAre_104 gk_i_0 ?_
                  refine gr_iadd dX4_thereAre_105 ?_
                  refine gr_istore_n (lv' := [some (.ref 38), some (.int a1), some (.int (((v2 + j1) + j3) + (0 : Int32))), some (.int v3)]) dX4_thereAre_106 rfl (by decide) rfl ?_
                  refine gr_iinc (lv' := [some (.ref 38), some (.int a1), some (.int (((v2 + j1) + j3) + (0 : Int32))), some (.int (v3 + (1 : Int32)))]) dX4_thereAre_107 rfl gk_i_1 (by decide) rfl ?_
                  refine gr_goto (tgt := 4) dX4_thereAre_110 (by decide) ?_
                  exact ih _ _ h
                · refine gr_iconst dX4_thereAre_100 gk_i_1 ?_
                  refine gr_goto (tgt := 105) dX4_thereAre_101 (by decide) ?_
                  refine gr_iadd dX4_thereAre_105 ?_
                  refine gr_istore_n (lv' := [some (.ref 38), some (.int a1), some (.int (((v2 + j1) + j3) + (1 : Int32))), some (.int v3)]) dX4_thereAre_106 rfl (by decide) rfl ?_
                  refine gr_iinc (lv' := [some (.ref 38), some (.int a1), some (.int (((v2 + j1) + j3) + (1 : Int32))), some (.int (v3 + (1 : Int32)))]) dX4_thereAre_107 rfl gk_i_1 (by decide) rfl ?_
                  refine gr_goto (tgt := 4) dX4_thereAre_110 (by decide) ?_
                  exact ih _ _ h
              by_cases hc0 : v3 < (3 : Int32)
              · refine gr_icmpT_ge (tgt := 95) dX4_thereAre_88 (by decide) hc0 ?_
                refine gr_iload_n dX4_thereAre_91 rfl rfl ?_
                refine gr_goto (tgt := 96) dX4_thereAre_92 (by decide) ?_
                refine gn_wkn [true, true, false, true] rfl ?_
                exact hJ _ (by rw [if_pos hc0])
              · refine gr_icmpF_ge (tgt := 95) dX4_thereAre_88 (by decide) hc0 ?_
                refine gr_iconst dX4_thereAre_95 gk_i_0 ?_
                refine gn_wkn [true, true, false, true] rfl ?_
                exact hJ _ (by rw [if_neg hc0])
            · refine gr_iconst dX4_thereAre_104 gk_i_0 ?_
              refine gr_iadd dX4_thereAre_105 ?_
              refine gr_istore_n (lv' := [some (.ref 38), some (.int a1), some (.int (((v2 + j1) + j3) + (0 : Int32))), some (.int v3)]) dX4_thereAre_106 rfl (by decide) rfl ?_
              refine gr_iinc (lv' := [some (.ref 38), some (.int a1), some (.int (((v2 + j1) + j3) + (0 : Int32))), some (.int (v3 + (1 : Int32)))]) dX4_thereAre_107 rfl gk_i_1 (by decide) rfl ?_
              refine gr_goto (tgt := 4) dX4_thereAre_110 (by decide) ?_
              exact ih _ _ h
          · refine gr_iconst dX4_thereAre_104 gk_i_0 ?_
            refine gr_iadd dX4_thereAre_105 ?_
            refine gr_istore_n (lv' := [some (.ref 38), some (.int a1), some (.int (((v2 + j1) + j3) + (0 : Int32))), some (.int v3)]) dX4_thereAre_106 rfl (by decide) rfl ?_
            refine gr_iinc (lv' := [some (.ref 38), some (.int a1), some (.int (((v2 + j1) + j3) + (0 : Int32))), some (.int (v3 + (1 : Int32)))]) dX4_thereAre_107 rfl gk_i_1 (by decide) rfl ?_
            refine gr_goto (tgt := 4) dX4_thereAre_110 (by decide) ?_
            exact ih _ _ h
        · refine gr_icmp_ne (tgt := 67) dX4_thereAre_37 (by decide) h (fun _ h => ?_) (fun _ h => ?_)
          · refine gr_iload_n dX4_thereAre_40 rfl rfl ?_
            refine gr_iconst dX4_thereAre_41 gk_i_4 ?_
            refine gr_icmp_ge (tgt := 67) dX4_thereAre_42 (by decide) h (fun _ h => ?_) (fun _ h => ?_)
            · refine gr_aload_n dX4_thereAre_45 rfl rfl ?_
              refine gr_getR q_38_7 fl_X4_23 dX4_thereAre_46 ?_
              refine gr_iload_n dX4_thereAre_49 rfl rfl ?_
              refine gr_iconst dX4_thereAre_50 gk_i_4 ?_
              have hJ : ∀ y7 : Int32, y7 = (if v3 < (4 : Int32) then v3 else (0 : Int32)) → gn_Go RX4 cX4_thereAre 4 0 0 (some .int) none 59 [some (.ref 38), some (.int a1), none, some (.int v3)] [.int y7, .ref 42, .int (v2 + j1)] m (some (.int v)) m := by
                intro y7 hx
                subst hx
                refine gq_iaload s_42 dX4_thereAre_59 h (fun x8 h => ?_)
                refine gr_if_lt (tgt := 67) dX4_thereAre_60 (by decide) h (fun _ h => ?_) (fun _ h => ?_)
                · refine gr_iconst dX4_thereAre_67 gk_i_0 ?_
                  exact hJ4 (0 : Int32) h
                · refine gr_iconst dX4_thereAre_63 gk_i_1 ?_
                  refine gr_goto (tgt := 68) dX4_thereAre_64 (by decide) ?_
                  exact hJ4 (1 : Int32) h
              by_cases hc0 : v3 < (4 : Int32)
              · refine gr_icmpT_ge (tgt := 58) dX4_thereAre_51 (by decide) hc0 ?_
                refine gr_iload_n dX4_thereAre_54 rfl rfl ?_
                refine gr_goto (tgt := 59) dX4_thereAre_55 (by decide) ?_
                refine gn_wkn [true, true, false, true] rfl ?_
                exact hJ _ (by rw [if_pos hc0])
              · refine gr_icmpF_ge (tgt := 58) dX4_thereAre_51 (by decide) hc0 ?_
                refine gr_iconst dX4_thereAre_58 gk_i_0 ?_
                refine gn_wkn [true, true, false, true] rfl ?_
                exact hJ _ (by rw [if_neg hc0])
            · refine gr_iconst dX4_thereAre_67 gk_i_0 ?_
              refine gn_wkn [true, true, false, true] rfl ?_
              exact hJ4 (0 : Int32) h
          · refine gr_iconst dX4_thereAre_67 gk_i_0 ?_
            refine gn_wkn [true, true, false, true] rfl ?_
            exact hJ4 (0 : Int32) h
      · refine gr_icmp_ne (tgt := 30) dX4_thereAre_14 (by decide) h (fun _ h => ?_) (fun _ h => ?_)
        · refine gr_aload_n dX4_thereAre_17 rfl rfl ?_
          refine gr_getR q_38_5 fl_X4_17 dX4_thereAre_18 ?_
          refine gr_iload_n dX4_thereAre_21 rfl rfl ?_
          refine gq_iaload s_40 dX4_thereAre_22 h (fun x9 h => ?_)
          refine gr_if_lt (tgt := 30) dX4_thereAre_23 (by decide) h (fun _ h => ?_) (fun _ h => ?_)
          · refine gr_iconst dX4_thereAre_30 gk_i_0 ?_
            refine gn_wkn [true, true, false, true] rfl ?_
            exact hJ2 (0 : Int32) h
          · refine gr_iconst dX4_thereAre_26 gk_i_1 ?_
            refine gr_goto (tgt := 31) dX4_thereAre_27 (by decide) ?_
            refine gn_wkn [true, true, false, true] rfl ?_
            exact hJ2 (1 : Int32) h
        · refine gr_iconst dX4_thereAre_30 gk_i_0 ?_
          refine gn_wkn [true, true, false, true] rfl ?_
          exact hJ2 (0 : Int32) h
    · refine gn_wkn [false, false, true, false] rfl ?_
      exact hk _ h
def f_X4_thereAre (n : Nat) (m : gn_M) (p0 : Int32) : Option (Int32) := L_X4_thereAre_4 n m p0 (fun (e10 : Int32) => some e10) n (0 : Int32) (0 : Int32)
set_option maxRecDepth 100000 in
set_option maxHeartbeats 4000000 in
theorem c_X4_thereAre {n : Nat} {m : gn_M} {p0 : Int32} {v : Int32} (h : f_X4_thereAre n m p0 = some v) : gn_Cl yX4_thereAre cX4_thereAre 4 (some .int) 0 0 [.ref 38, .int p0] m (some (.int v)) m := by
  rw [f_X4_thereAre] at h
  refine gn_met (lv := [some (.ref 38), some (.int p0), none, none]) pl_X4 rfl rfl (Nat.le_of_ble_eq_true rfl) ?_
  refine gr_iconst dX4_thereAre_0 gk_i_0 ?_
  refine gr_istore_n (lv' := [some (.ref 38), some (.int p0), some (.int (0 : Int32)), none]) dX4_thereAre_1 rfl (by decide) rfl ?_
  refine gr_iconst dX4_thereAre_2 gk_i_0 ?_
  refine gr_istore_n (lv' := [some (.ref 38), some (.int p0), some (.int (0 : Int32)), some (.int (0 : Int32))]) dX4_thereAre_3 rfl (by decide) rfl ?_
  refine l_X4_thereAre_4 (fun e10 h => ?_) _ _ _ h
  refine gr_iload_n dX4_thereAre_113 rfl rfl ?_
  exact gq_retI dX4_thereAre_114 rfl h
def f_X4_count (n : Nat) (m : gn_M) (p0 : Int32) : Option (Int32) := (if p0 = 0 then some (m.1 38 10) else (if p0 = 1 then (f_X4_now m (7 : Int32)).bind (fun x1 => (f_X4_bitsOf n x1).bind (fun x2 => some x2)) else (if p0 = 2 then some (m.1 38 16) else (if p0 = 3 then (f_X4_now m (8 : Int32)).bind (fun x3 => some x3) else (if p0 = 4 then (f_X4_now m (7 : Int32)).bind (fun x4 => some x4) else (if p0 = 5 then (f_X4_now m (9 : Int32)).bind (fun x5 => some x5) else (if p0 = 6 then (f_X4_openTo n m).bind (fun x6 => (f_X4_bitsOf n x6).bind (fun x7 => some x7)) else (if p0 = 7 then (f_X4_thereAre n m p0).bind (fun x8 => some x8) else (if p0 = 8 then (f_X4_thereAre n m p0).bind (fun x9 => some x9) else (if p0 = 9 then (f_X4_thereAre n m p0).bind (fun x10 => some x10) else (if p0 = 10 then (f_X4_ofKind n m (4 : Int32)).bind (fun x11 => (f_X4_ofKind n m (5 : Int32)).bind (fun x12 => (f_X4_bitsOf n (x11 ||| x12)).bind (fun x13 => some x13))) else (if p0 = 11 then (f_X4_ofKind n m (1 : Int32)).bind (fun x14 => (f_X4_bitsOf n x14).bind (fun x15 => some x15)) else some (-1 : Int32)))))))))))))
set_option maxRecDepth 100000 in
set_option maxHeartbeats 4000000 in
theorem c_X4_count {n : Nat} {m : gn_M} {p0 : Int32} {v : Int32} (h : f_X4_count n m p0 = some v) : gn_Cl yX4_count cX4_count 2 (some .int) 5 111 [.ref 38, .int p0] m (some (.int v)) m := by
  rw [f_X4_count] at h
  refine gn_met (lv := [some (.ref 38), some (.int p0)]) pl_X4 rfl rfl (Nat.le_of_ble_eq_true rfl) ?_
  refine gr_iload_n dX4_count_0 rfl rfl ?_
  refine gn_sw h (fun hs0 h => ?_) (fun hs0 h => ?_)
  · refine gr_tsIn (tgt := 64) dX4_count_1 hs0 (by decide) (by decide) rfl (by decide) ?_
    refine gr_aload_n dX4_count_64 rfl rfl ?_
    refine gr_getI q_38_10 fl_X4_104 dX4_count_65 ?_
    exact gq_retI dX4_count_68 rfl h
  refine gn_sw h (fun hs1 h => ?_) (fun hs1 h => ?_)
  · refine gr_tsIn (tgt := 69) dX4_count_1 hs1 (by decide) (by decide) rfl (by decide) ?_
    refine gr_aload_n dX4_count_69 rfl rfl ?_
    refine gr_bipush dX4_count_70 gk_b_7 ?_
    obtain ⟨x1, hx1, h⟩ := gn_bd h
    refine gc_VI (c_X4_now hx1) my_X4_now mv_X4_now ob_38 ml_X4_110 rfl rfl ⟨Nat.le_of_ble_eq_true rfl, Nat.le_of_ble_eq_true rfl⟩ (Nat.le_of_ble_eq_true rfl) dX4_count_72 (fun fx1 => ?_)
    obtain ⟨x2, hx2, h⟩ := gn_bd h
    refine gc_SI (c_X4_bitsOf hx2) my_X4_bitsOf ms_X4_bitsOf ml_X4_153 rfl rfl ⟨Nat.le_of_ble_eq_true rfl, Nat.le_of_ble_eq_true rfl⟩ (Nat.le_of_ble_eq_true rfl) dX4_count_75 (fun fx2 => ?_)
    exact gq_retI dX4_count_78 rfl h
  refine gn_sw h (fun hs2 h => ?_) (fun hs2 h => ?_)
  · refine gr_tsIn (tgt := 79) dX4_count_1 hs2 (by decide) (by decide) rfl (by decide) ?_
    refine gr_aload_n dX4_count_79 rfl rfl ?_
    refine gr_getI q_38_16 fl_X4_107 dX4_count_80 ?_
    exact gq_retI dX4_count_83 rfl h
  refine gn_sw h (fun hs3 h => ?_) (fun hs3 h => ?_)
  · refine gr_tsIn (tgt := 84) dX4_count_1 hs3 (by decide) (by decide) rfl (by decide) ?_
    refine gr_aload_n dX4_count_84 rfl rfl ?_
    refine gr_bipush dX4_count_85 gk_b_8 ?_
    obtain ⟨x3, hx3, h⟩ := gn_bd h
    refine gc_VI (c_X4_now hx3) my_X4_now mv_X4_now ob_38 ml_X4_110 rfl rfl ⟨Nat.le_of_ble_eq_true rfl, Nat.le_of_ble_eq_true rfl⟩ (Nat.le_of_ble_eq_true rfl) dX4_count_87 (fun fx3 => ?_)
    exact gq_retI dX4_count_90 rfl h
  refine gn_sw h (fun hs4 h => ?_) (fun hs4 h => ?_)
  · refine gr_tsIn (tgt := 91) dX4_count_1 hs4 (by decide) (by decide) rfl (by decide) ?_
    refine gr_aload_n dX4_count_91 rfl rfl ?_
    refine gr_bipush dX4_count_92 gk_b_7 ?_
    obtain ⟨x4, hx4, h⟩ := gn_bd h
    refine gc_VI (c_X4_now hx4) my_X4_now mv_X4_now ob_38 ml_X4_110 rfl rfl ⟨Nat.le_of_ble_eq_true rfl, Nat.le_of_ble_eq_true rfl⟩ (Nat.le_of_ble_eq_true rfl) dX4_count_94 (fun fx4 => ?_)
    exact gq_retI dX4_count_97 rfl h
  refine gn_sw h (fun hs5 h => ?_) (fun hs5 h => ?_)
  · refine gr_tsIn (tgt := 98) dX4_count_1 hs5 (by decide) (by decide) rfl (by decide) ?_
    refine gr_aload_n dX4_count_98 rfl rfl ?_
    refine gr_bipush dX4_count_99 gk_b_9 ?_
    obtain ⟨x5, hx5, h⟩ := gn_bd h
    refine gc_VI (c_X4_now hx5) my_X4_now mv_X4_now ob_38 ml_X4_110 rfl rfl ⟨Nat.le_of_ble_eq_true rfl, Nat.le_of_ble_eq_true rfl⟩ (Nat.le_of_ble_eq_true rfl) dX4_count_101 (fun fx5 => ?_)
    exact gq_retI dX4_count_104 rfl h
  refine gn_sw h (fun hs6 h => ?_) (fun hs6 h => ?_)
  · refine gr_tsIn (tgt := 105) dX4_count_1 hs6 (by decide) (by decide) rfl (by decide) ?_
    refine gr_aload_n dX4_count_105 rfl rfl ?_
    obtain ⟨x6, hx6, h⟩ := gn_bd h
    refine gc_VI (c_X4_openTo hx6) my_X4_openTo mv_X4_openTo ob_38 ml_X4_178 rfl rfl ⟨Nat.le_of_ble_eq_true rfl, Nat.le_of_ble_eq_true rfl⟩ (Nat.le_of_ble_eq_true rfl) dX4_count_106 (fun fx6 => ?_)
    obtain ⟨x7, hx7, h⟩ := gn_bd h
    refine gc_SI (c_X4_bitsOf hx7) my_X4_bitsOf ms_X4_bitsOf ml_X4_153 rfl rfl ⟨Nat.le_of_ble_eq_true rfl, Nat.le_of_ble_eq_true rfl⟩ (Nat.le_of_ble_eq_true rfl) dX4_count_109 (fun fx7 => ?_)
    exact gq_retI dX4_count_112 rfl h
  refine gn_sw h (fun hs7 h => ?_) (fun hs7 h => ?_)
  · refine gr_tsIn (tgt := 113) dX4_count_1 hs7 (by decide) (by decide) rfl (by decide) ?_
    refine gr_aload_n dX4_count_113 rfl rfl ?_
    refine gr_iload_n dX4_count_114 rfl rfl ?_
    obtain ⟨x8, hx8, h⟩ := gn_bd h
    refine gc_VI (c_X4_thereAre hx8) my_X4_thereAre mv_X4_thereAre ob_38 ml_X4_248 rfl rfl ⟨Nat.le_of_ble_eq_true rfl, Nat.le_of_ble_eq_true rfl⟩ (Nat.le_of_ble_eq_true rfl) dX4_count_115 (fun fx8 => ?_)
    exact gq_retI dX4_count_118 rfl h
  refine gn_sw h (fun hs8 h => ?_) (fun hs8 h => ?_)
  · refine gr_tsIn (tgt := 113) dX4_count_1 hs8 (by decide) (by decide) rfl (by decide) ?_
    refine gr_aload_n dX4_count_113 rfl rfl ?_
    refine gr_iload_n dX4_count_114 rfl rfl ?_
    obtain ⟨x9, hx9, h⟩ := gn_bd h
    refine gc_VI (c_X4_thereAre hx9) my_X4_thereAre mv_X4_thereAre ob_38 ml_X4_248 rfl rfl ⟨Nat.le_of_ble_eq_true rfl, Nat.le_of_ble_eq_true rfl⟩ (Nat.le_of_ble_eq_true rfl) dX4_count_115 (fun fx9 => ?_)
    exact gq_retI dX4_count_118 rfl h
  refine gn_sw h (fun hs9 h => ?_) (fun hs9 h => ?_)
  · refine gr_tsIn (tgt := 113) dX4_count_1 hs9 (by decide) (by decide) rfl (by decide) ?_
    refine gr_aload_n dX4_count_113 rfl rfl ?_
    refine gr_iload_n dX4_count_114 rfl rfl ?_
    obtain ⟨x10, hx10, h⟩ := gn_bd h
    refine gc_VI (c_X4_thereAre hx10) my_X4_thereAre mv_X4_thereAre ob_38 ml_X4_248 rfl rfl ⟨Nat.le_of_ble_eq_true rfl, Nat.le_of_ble_eq_true rfl⟩ (Nat.le_of_ble_eq_true rfl) dX4_count_115 (fun fx10 => ?_)
    exact gq_retI dX4_count_118 rfl h
  refine gn_sw h (fun hs10 h => ?_) (fun hs10 h => ?_)
  · refine gr_tsIn (tgt := 119) dX4_count_1 hs10 (by decide) (by decide) rfl (by decide) ?_
    refine gr_aload_n dX4_count_119 rfl rfl ?_
    refine gr_iconst dX4_count_120 gk_i_4 ?_
    obtain ⟨x11, hx11, h⟩ := gn_bd h
    refine gc_VI (c_X4_ofKind hx11) my_X4_ofKind mv_X4_ofKind ob_38 ml_X4_120 rfl rfl ⟨Nat.le_of_ble_eq_true rfl, Nat.le_of_ble_eq_true rfl⟩ (Nat.le_of_ble_eq_true rfl) dX4_count_121 (fun fx11 => ?_)
    refine gr_aload_n dX4_count_124 rfl rfl ?_
    refine gr_iconst dX4_count_125 gk_i_5 ?_
    obtain ⟨x12, hx12, h⟩ := gn_bd h
    refine gc_VI (c_X4_ofKind hx12) my_X4_ofKind mv_X4_ofKind ob_38 ml_X4_120 rfl rfl ⟨Nat.le_of_ble_eq_true rfl, Nat.le_of_ble_eq_true rfl⟩ (Nat.le_of_ble_eq_true rfl) dX4_count_126 (fun fx12 => ?_)
    refine gr_ior dX4_count_129 ?_
    obtain ⟨x13, hx13, h⟩ := gn_bd h
    refine gc_SI (c_X4_bitsOf hx13) my_X4_bitsOf ms_X4_bitsOf ml_X4_153 rfl rfl ⟨Nat.le_of_ble_eq_true rfl, Nat.le_of_ble_eq_true rfl⟩ (Nat.le_of_ble_eq_true rfl) dX4_count_130 (fun fx13 => ?_)
    exact gq_retI dX4_count_133 rfl h
  refine gn_sw h (fun hs11 h => ?_) (fun hs11 h => ?_)
  · refine gr_tsIn (tgt := 134) dX4_count_1 hs11 (by decide) (by decide) rfl (by decide) ?_
    refine gr_aload_n dX4_count_134 rfl rfl ?_
    refine gr_iconst dX4_count_135 gk_i_1 ?_
    obtain ⟨x14, hx14, h⟩ := gn_bd h
    refine gc_VI (c_X4_ofKind hx14) my_X4_ofKind mv_X4_ofKind ob_38 ml_X4_120 rfl rfl ⟨Nat.le_of_ble_eq_true rfl, Nat.le_of_ble_eq_true rfl⟩ (Nat.le_of_ble_eq_true rfl) dX4_count_136 (fun fx14 => ?_)
    obtain ⟨x15, hx15, h⟩ := gn_bd h
    refine gc_SI (c_X4_bitsOf hx15) my_X4_bitsOf ms_X4_bitsOf ml_X4_153 rfl rfl ⟨Nat.le_of_ble_eq_true rfl, Nat.le_of_ble_eq_true rfl⟩ (Nat.le_of_ble_eq_true rfl) dX4_count_139 (fun fx15 => ?_)
    exact gq_retI dX4_count_142 rfl h
  refine gr_tsOut (tgt := 143) dX4_count_1 (by have := gn_out (x := p0) 12 0 (fun j hj => match j, hj with | 0, _ => hs0 | 1, _ => hs1 | 2, _ => hs2 | 3, _ => hs3 | 4, _ => hs4 | 5, _ => hs5 | 6, _ => hs6 | 7, _ => hs7 | 8, _ => hs8 | 9, _ => hs9 | 10, _ => hs10 | 11, _ => hs11 | j + 12, hj => absurd hj (by omega)); omega) (by decide) ?_
  refine gr_iconst dX4_count_143 gk_i_m1 ?_
  exact gq_retI dX4_count_144 rfl h
def f_X4_finding (m : gn_M) : Option (Int32) := some (m.1 38 0)
set_option maxRecDepth 100000 in
set_option maxHeartbeats 4000000 in
theorem c_X4_finding {m : gn_M} {v : Int32} (h : f_X4_finding m = some v) : gn_Cl yX4_finding cX4_finding 1 (some .int) 0 0 [.ref 38] m (some (.int v)) m := by
  rw [f_X4_finding] at h
  refine gn_met (lv := [some (.ref 38)]) pl_X4 rfl rfl (Nat.le_of_ble_eq_true rfl) ?_
  refine gr_aload_n dX4_finding_0 rfl rfl ?_
  refine gr_getI q_38_0 fl_X4_67 dX4_finding_1 ?_
  exact gq_retI dX4_finding_4 rfl h
def f_X4_findings (m : gn_M) (p0 : Int32) : Option (Int32) := (f_X4_in p0 (1 : Int32) (5 : Int32)).bind (fun x1 => (if x1 = 0 then some (-1 : Int32) else gn_rd m 39 6 p0 (fun x2 => some x2)))
set_option maxRecDepth 100000 in
set_option maxHeartbeats 4000000 in
theorem c_X4_findings {m : gn_M} {p0 : Int32} {v : Int32} (h : f_X4_findings m p0 = some v) : gn_Cl yX4_findings cX4_findings 2 (some .int) 1 22 [.ref 38, .int p0] m (some (.int v)) m := by
  rw [f_X4_findings] at h
  refine gn_met (lv := [some (.ref 38), some (.int p0)]) pl_X4 rfl rfl (Nat.le_of_ble_eq_true rfl) ?_
  refine gr_iload_n dX4_findings_0 rfl rfl ?_
  refine gr_iconst dX4_findings_1 gk_i_1 ?_
  refine gr_iconst dX4_findings_2 gk_i_5 ?_
  obtain ⟨x1, hx1, h⟩ := gn_bd h
  refine gc_SI (c_X4_in hx1) my_X4_in ms_X4_in ml_X4_77 rfl rfl ⟨Nat.le_of_ble_eq_true rfl, Nat.le_of_ble_eq_true rfl⟩ (Nat.le_of_ble_eq_true rfl) dX4_findings_3 (fun fx1 => ?_)
  refine gr_if_eq (tgt := 18) dX4_findings_6 (by decide) h (fun _ h => ?_) (fun _ h => ?_)
  · refine gr_iconst dX4_findings_18 gk_i_m1 ?_
    exact gq_retI dX4_findings_19 rfl h
  · refine gr_aload_n dX4_findings_9 rfl rfl ?_
    refine gr_getR q_38_1 fl_X4_7 dX4_findings_10 ?_
    refine gr_iload_n dX4_findings_13 rfl rfl ?_
    refine gq_iaload s_39 dX4_findings_14 h (fun x2 h => ?_)
    refine gr_goto (tgt := 19) dX4_findings_15 (by decide) ?_
    exact gq_retI dX4_findings_19 rfl h
def L_X4_digest_6 (n : Nat) (m : gn_M) (k : Int64 → Option (Int64)) : Nat → Int64 → Int32 → Option (Int64)
  | 0, _, _ => none
  | f + 1, v1, v3 => (if (11 : Int32) < v3 then k v1 else (f_X4_count n m v3).bind (fun x1 => L_X4_digest_6 n m k f (((31 : Int64) * v1) + x1.toInt64) (v3 + (1 : Int32))))
set_option maxRecDepth 100000 in
set_option maxHeartbeats 4000000 in
theorem l_X4_digest_6 {n : Nat} {m : gn_M} {k : Int64 → Option (Int64)} {v : Int64} (hk : ∀ (e1 : Int64), k e1 = some v → gn_Go RX4 cX4_digest 5 6 132 (some .long) none 31 [some (.ref 38), some (.long e1), none, none, none] [] m (some (.long v)) m) : ∀ (f : Nat) (v1 : Int64) (v3 : Int32), L_X4_digest_6 n m k f v1 v3 = some v → gn_Go RX4 cX4_digest 5 6 132 (some .long) none 6 [some (.ref 38), some (.long v1), none, some (.int v3), none] [] m (some (.long v)) m := by
  intro f
  induction f with
  | zero =>
    intro v1 v3 h
    cases h
  | succ f ih =>
    intro v1 v3 h
    rw [L_X4_digest_6] at h
    refine gr_iload_n dX4_digest_6 rfl rfl ?_
    refine gr_bipush dX4_digest_7 gk_b_11 ?_
    refine gr_icmp_gt (tgt := 31) dX4_digest_9 (by decide) h (fun _ h => ?_) (fun _ h => ?_)
    · refine gn_wkn [true, true, false, false, false] rfl ?_
      exact hk _ h
    · refine gr_ldc2 kl_X4_253 dX4_digest_12 ?_
      refine gr_lload_n dX4_digest_15 rfl rfl ?_
      refine gr_lmul dX4_digest_16 ?_
      refine gr_aload_n dX4_digest_17 rfl rfl ?_
      refine gr_iload_n dX4_digest_18 rfl rfl ?_
      obtain ⟨x1, hx1, h⟩ := gn_bd h
      refine gc_VI (c_X4_count hx1) my_X4_count mv_X4_count ob_38 ml_X4_255 rfl rfl ⟨Nat.le_of_ble_eq_true rfl, Nat.le_of_ble_eq_true rfl⟩ (Nat.le_of_ble_eq_true rfl) dX4_digest_19 (fun fx1 => ?_)
      refine gr_i2l dX4_digest_22 ?_
      refine gr_ladd dX4_digest_23 ?_
      refine gr_lstore_n (lv' := [some (.ref 38), some (.long (((31 : Int64) * v1) + x1.toInt64)), none, some (.int v3), none]) dX4_digest_24 rfl (by decide) rfl ?_
      refine gr_iinc (lv' := [some (.ref 38), some (.long (((31 : Int64) * v1) + x1.toInt64)), none, some (.int (v3 + (1 : Int32))), none]) dX4_digest_25 rfl gk_i_1 (by decide) rfl ?_
      refine gr_goto (tgt := 6) dX4_digest_28 (by decide) ?_
      exact ih _ _ h
def L_X4_digest_44 (n : Nat) (m : gn_M) (a3 : Int32) (k : Int64 → Option (Int64)) : Nat → Int64 → Int32 → Option (Int64)
  | 0, _, _ => none
  | f + 1, v1, v4 => (if (6 : Int32) < v4 then k v1 else (f_X4_factOf n m a3 v4).bind (fun x3 => L_X4_digest_44 n m a3 k f (((31 : Int64) * v1) + x3.toInt64) (v4 + (1 : Int32))))
set_option maxRecDepth 100000 in
set_option maxHeartbeats 4000000 in
theorem l_X4_digest_44 {n : Nat} {m : gn_M} {a3 : Int32} {k : Int64 → Option (Int64)} {v : Int64} (hk : ∀ (e1 : Int64), k e1 = some v → gn_Go RX4 cX4_digest 5 6 132 (some .long) none 72 [some (.ref 38), some (.long e1), none, some (.int a3), none] [] m (some (.long v)) m) : ∀ (f : Nat) (v1 : Int64) (v4 : Int32), L_X4_digest_44 n m a3 k f v1 v4 = some v → gn_Go RX4 cX4_digest 5 6 132 (some .long) none 44 [some (.ref 38), some (.long v1), none, some (.int a3), some (.int v4)] [] m (some (.long v)) m := by
  intro f
  induction f with
  | zero =>
    intro v1 v4 h
    cases h
  | succ f ih =>
    intro v1 v4 h
    rw [L_X4_digest_44] at h
    refine gr_iload dX4_digest_44 rfl ?_
    refine gr_bipush dX4_digest_46 gk_b_6 ?_
    refine gr_icmp_gt (tgt := 72) dX4_digest_48 (by decide) h (fun _ h => ?_) (fun _ h => ?_)
    · refine gn_wkn [true, true, false, true, false] rfl ?_
      exact hk _ h
    · refine gr_ldc2 kl_X4_253 dX4_digest_51 ?_
      refine gr_lload_n dX4_digest_54 rfl rfl ?_
      refine gr_lmul dX4_digest_55 ?_
      refine gr_aload_n dX4_digest_56 rfl rfl ?_
      refine gr_iload_n dX4_digest_57 rfl rfl ?_
      refine gr_iload dX4_digest_58 rfl ?_
      obtain ⟨x3, hx3, h⟩ := gn_bd h
      refine gc_VI (c_X4_factOf hx3) my_X4_factOf mv_X4_factOf ob_38 ml_X4_146 rfl rfl ⟨Nat.le_of_ble_eq_true rfl, Nat.le_of_ble_eq_true rfl⟩ (Nat.le_of_ble_eq_true rfl) dX4_digest_60 (fun fx3 => ?_)
      refine gr_i2l dX4_digest_63 ?_
      refine gr_ladd dX4_digest_64 ?_
      refine gr_lstore_n (lv' := [some (.ref 38), some (.long (((31 : Int64) * v1) + x3.toInt64)), none, some (.int a3), some (.int v4)]) dX4_digest_65 rfl (by decide) rfl ?_
      refine gr_iinc (lv' := [some (.ref 38), some (.long (((31 : Int64) * v1) + x3.toInt64)), none, some (.int a3), some (.int (v4 + (1 : Int32)))]) dX4_digest_66 rfl gk_i_1 (by decide) rfl ?_
      refine gr_goto (tgt := 44) dX4_digest_69 (by decide) ?_
      exact ih _ _ h
def L_X4_digest_33 (n : Nat) (m : gn_M) (k : Int64 → Option (Int64)) : Nat → Int64 → Int32 → Option (Int64)
  | 0, _, _ => none
  | f + 1, v1, v3 => (if v3 < (m.1 38 10) then L_X4_digest_44 n m v3 (fun (e4 : Int64) => L_X4_digest_33 n m k f e4 (v3 + (1 : Int32))) n v1 (0 : Int32) else k v1)
set_option maxRecDepth 100000 in
set_option maxHeartbeats 4000000 in
theorem l_X4_digest_33 {n : Nat} {m : gn_M} {k : Int64 → Option (Int64)} {v : Int64} (hk : ∀ (e1 : Int64), k e1 = some v → gn_Go RX4 cX4_digest 5 6 132 (some .long) none 78 [some (.ref 38), some (.long e1), none, none, none] [] m (some (.long v)) m) : ∀ (f : Nat) (v1 : Int64) (v3 : Int32), L_X4_digest_33 n m k f v1 v3 = some v → gn_Go RX4 cX4_digest 5 6 132 (some .long) none 33 [some (.ref 38), some (.long v1), none, some (.int v3), none] [] m (some (.long v)) m := by
  intro f
  induction f with
  | zero =>
    intro v1 v3 h
    cases h
  | succ f ih =>
    intro v1 v3 h
    rw [L_X4_digest_33] at h
    refine gr_iload_n dX4_digest_33 rfl rfl ?_
    refine gr_aload_n dX4_digest_34 rfl rfl ?_
    refine gr_getI q_38_10 fl_X4_104 dX4_digest_35 ?_
    refine gr_icmp_ge (tgt := 78) dX4_digest_38 (by decide) h (fun _ h => ?_) (fun _ h => ?_)
    · refine gr_iconst dX4_digest_41 gk_i_0 ?_
      refine gr_istore (lv' := [some (.ref 38), some (.long v1), none, some (.int v3), some (.int (0 : Int32))]) dX4_digest_42 (by decide) rfl ?_
      refine l_X4_digest_44 (fun e4 h => ?_) _ _ _ h
      refine gr_iinc (lv' := [some (.ref 38), some (.long e4), none, some (.int (v3 + (1 : Int32))), none]) dX4_digest_72 rfl gk_i_1 (by decide) rfl ?_
      refine gr_goto (tgt := 33) dX4_digest_75 (by decide) ?_
      exact ih _ _ h
    · refine gn_wkn [true, true, false, false, false] rfl ?_
      exact hk _ h
def L_X4_digest_80 (n : Nat) (m : gn_M) (k : Int64 → Option (Int64)) : Nat → Int64 → Int32 → Option (Int64)
  | 0, _, _ => none
  | f + 1, v1, v3 => (if v3 < (3 : Int32) then gn_rd m 50 3 v3 (fun x6 => L_X4_digest_80 n m k f (((31 : Int64) * v1) + x6.toInt64) (v3 + (1 : Int32))) else k v1)
set_option maxRecDepth 100000 in
set_option maxHeartbeats 4000000 in
theorem l_X4_digest_80 {n : Nat} {m : gn_M} {k : Int64 → Option (Int64)} {v : Int64} (hk : ∀ (e1 : Int64), k e1 = some v → gn_Go RX4 cX4_digest 5 6 132 (some .long) none 105 [some (.ref 38), some (.long e1), none, none, none] [] m (some (.long v)) m) : ∀ (f : Nat) (v1 : Int64) (v3 : Int32), L_X4_digest_80 n m k f v1 v3 = some v → gn_Go RX4 cX4_digest 5 6 132 (some .long) none 80 [some (.ref 38), some (.long v1), none, some (.int v3), none] [] m (some (.long v)) m := by
  intro f
  induction f with
  | zero =>
    intro v1 v3 h
    cases h
  | succ f ih =>
    intro v1 v3 h
    rw [L_X4_digest_80] at h
    refine gr_iload_n dX4_digest_80 rfl rfl ?_
    refine gr_iconst dX4_digest_81 gk_i_3 ?_
    refine gr_icmp_ge (tgt := 105) dX4_digest_82 (by decide) h (fun _ h => ?_) (fun _ h => ?_)
    · refine gr_ldc2 kl_X4_253 dX4_digest_85 ?_
      refine gr_lload_n dX4_digest_88 rfl rfl ?_
      refine gr_lmul dX4_digest_89 ?_
      refine gr_aload_n dX4_digest_90 rfl rfl ?_
      refine gr_getR q_38_18 fl_X4_48 dX4_digest_91 ?_
      refine gr_iload_n dX4_digest_94 rfl rfl ?_
      refine gq_iaload s_50 dX4_digest_95 h (fun x6 h => ?_)
      refine gr_i2l dX4_digest_96 ?_
      refine gr_ladd dX4_digest_97 ?_
      refine gr_lstore_n (lv' := [some (.ref 38), some (.long (((31 : Int64) * v1) + x6.toInt64)), none, some (.int v3), none]) dX4_digest_98 rfl (by decide) rfl ?_
      refine gr_iinc (lv' := [some (.ref 38), some (.long (((31 : Int64) * v1) + x6.toInt64)), none, some (.int (v3 + (1 : Int32))), none]) dX4_digest_99 rfl gk_i_1 (by decide) rfl ?_
      refine gr_goto (tgt := 80) dX4_digest_102 (by decide) ?_
      exact ih _ _ h
    · refine gn_wkn [true, true, false, false, false] rfl ?_
      exact hk _ h
def L_X4_digest_130 (n : Nat) (m : gn_M) (a3 : Int32) (k : Int64 → Option (Int64)) : Nat → Int64 → Int32 → Option (Int64)
  | 0, _, _ => none
  | f + 1, v1, v4 => gn_rd m 40 6 a3 (fun x9 => (if v4 < x9 then gn_rd m 41 240 (((40 : Int32) * a3) + v4) (fun x10 => L_X4_digest_130 n m a3 k f (((31 : Int64) * v1) + x10.toInt64) (v4 + (1 : Int32))) else k v1))
set_option maxRecDepth 100000 in
set_option maxHeartbeats 4000000 in
theorem l_X4_digest_130 {n : Nat} {m : gn_M} {a3 : Int32} {k : Int64 → Option (Int64)} {v : Int64} (hk : ∀ (e1 : Int64), k e1 = some v → gn_Go RX4 cX4_digest 5 6 132 (some .long) none 167 [some (.ref 38), some (.long e1), none, some (.int a3), none] [] m (some (.long v)) m) : ∀ (f : Nat) (v1 : Int64) (v4 : Int32), L_X4_digest_130 n m a3 k f v1 v4 = some v → gn_Go RX4 cX4_digest 5 6 132 (some .long) none 130 [some (.ref 38), some (.long v1), none, some (.int a3), some (.int v4)] [] m (some (.long v)) m := by
  intro f
  induction f with
  | zero =>
    intro v1 v4 h
    cases h
  | succ f ih =>
    intro v1 v4 h
    rw [L_X4_digest_130] at h
    refine gr_iload dX4_digest_130 rfl ?_
    refine gr_aload_n dX4_digest_132 rfl rfl ?_
    refine gr_getR q_38_5 fl_X4_17 dX4_digest_133 ?_
    refine gr_iload_n dX4_digest_136 rfl rfl ?_
    refine gq_iaload s_40 dX4_digest_137 h (fun x9 h => ?_)
    refine gr_icmp_ge (tgt := 167) dX4_digest_138 (by decide) h (fun _ h => ?_) (fun _ h => ?_)
    · refine gr_ldc2 kl_X4_253 dX4_digest_141 ?_
      refine gr_lload_n dX4_digest_144 rfl rfl ?_
      refine gr_lmul dX4_digest_145 ?_
      refine gr_aload_n dX4_digest_146 rfl rfl ?_
      refine gr_getR q_38_6 fl_X4_20 dX4_digest_147 ?_
      refine gr_bipush dX4_digest_150 gk_b_40 ?_
      refine gr_iload_n dX4_digest_152 rfl rfl ?_
      refine gr_imul dX4_digest_153 ?_
      refine gr_iload dX4_digest_154 rfl ?_
      refine gr_iadd dX4_digest_156 ?_
      refine gq_iaload s_41 dX4_digest_157 h (fun x10 h => ?_)
      refine gr_i2l dX4_digest_158 ?_
      refine gr_ladd dX4_digest_159 ?_
      refine gr_lstore_n (lv' := [some (.ref 38), some (.long (((31 : Int64) * v1) + x10.toInt64)), none, some (.int a3), some (.int v4)]) dX4_digest_160 rfl (by decide) rfl ?_
      refine gr_iinc (lv' := [some (.ref 38), some (.long (((31 : Int64) * v1) + x10.toInt64)), none, some (.int a3), some (.int (v4 + (1 : Int32)))]) dX4_digest_161 rfl gk_i_1 (by decide) rfl ?_
      refine gr_goto (tgt := 130) dX4_digest_164 (by decide) ?_
      exact ih _ _ h
    · refine gn_wkn [true, true, false, true, false] rfl ?_
      exact hk _ h
def L_X4_digest_107 (n : Nat) (m : gn_M) (k : Int64 → Option (Int64)) : Nat → Int64 → Int32 → Option (Int64)
  | 0, _, _ => none
  | f + 1, v1, v3 => (if v3 < (6 : Int32) then gn_rd m 40 6 v3 (fun x8 => L_X4_digest_130 n m v3 (fun (e11 : Int64) => L_X4_digest_107 n m k f e11 (v3 + (1 : Int32))) n (((31 : Int64) * v1) + x8.toInt64) (0 : Int32)) else k v1)
set_option maxRecDepth 100000 in
set_option maxHeartbeats 4000000 in
theorem l_X4_digest_107 {n : Nat} {m : gn_M} {k : Int64 → Option (Int64)} {v : Int64} (hk : ∀ (e1 : Int64), k e1 = some v → gn_Go RX4 cX4_digest 5 6 132 (some .long) none 173 [some (.ref 38), some (.long e1), none, none, none] [] m (some (.long v)) m) : ∀ (f : Nat) (v1 : Int64) (v3 : Int32), L_X4_digest_107 n m k f v1 v3 = some v → gn_Go RX4 cX4_digest 5 6 132 (some .long) none 107 [some (.ref 38), some (.long v1), none, some (.int v3), none] [] m (some (.long v)) m := by
  intro f
  induction f with
  | zero =>
    intro v1 v3 h
    cases h
  | succ f ih =>
    intro v1 v3 h
    rw [L_X4_digest_107] at h
    refine gr_iload_n dX4_digest_107 rfl rfl ?_
    refine gr_bipush dX4_digest_108 gk_b_6 ?_
    refine gr_icmp_ge (tgt := 173) dX4_digest_110 (by decide) h (fun _ h => ?_) (fun _ h => ?_)
    · refine gr_ldc2 kl_X4_253 dX4_digest_113 ?_
      refine gr_lload_n dX4_digest_116 rfl rfl ?_
      refine gr_lmul dX4_digest_117 ?_
      refine gr_aload_n dX4_digest_118 rfl rfl ?_
      refine gr_getR q_38_5 fl_X4_17 dX4_digest_119 ?_
      refine gr_iload_n dX4_digest_122 rfl rfl ?_
      refine gq_iaload s_40 dX4_digest_123 h (fun x8 h => ?_)
      refine gr_i2l dX4_digest_124 ?_
      refine gr_ladd dX4_digest_125 ?_
      refine gr_lstore_n (lv' := [some (.ref 38), some (.long (((31 : Int64) * v1) + x8.toInt64)), none, some (.int v3), none]) dX4_digest_126 rfl (by decide) rfl ?_
      refine gr_iconst dX4_digest_127 gk_i_0 ?_
      refine gr_istore (lv' := [some (.ref 38), some (.long (((31 : Int64) * v1) + x8.toInt64)), none, some (.int v3), some (.int (0 : Int32))]) dX4_digest_128 (by decide) rfl ?_
      refine l_X4_digest_130 (fun e11 h => ?_) _ _ _ h
      refine gr_iinc (lv' := [some (.ref 38), some (.long e11), none, some (.int (v3 + (1 : Int32))), none]) dX4_digest_167 rfl gk_i_1 (by decide) rfl ?_
      refine gr_goto (tgt := 107) dX4_digest_170 (by decide) ?_
      exact ih _ _ h
    · refine gn_wkn [true, true, false, false, false] rfl ?_
      exact hk _ h
def L_X4_digest_197 (n : Nat) (m : gn_M) (a3 : Int32) (k : Int64 → Option (Int64)) : Nat → Int64 → Int32 → Option (Int64)
  | 0, _, _ => none
  | f + 1, v1, v4 => gn_rd m 42 4 a3 (fun x14 => (if v4 < x14 then gn_rd m 43 240 (((60 : Int32) * a3) + v4) (fun x15 => L_X4_digest_197 n m a3 k f (((31 : Int64) * v1) + x15.toInt64) (v4 + (1 : Int32))) else k v1))
set_option maxRecDepth 100000 in
set_option maxHeartbeats 4000000 in
theorem l_X4_digest_197 {n : Nat} {m : gn_M} {a3 : Int32} {k : Int64 → Option (Int64)} {v : Int64} (hk : ∀ (e1 : Int64), k e1 = some v → gn_Go RX4 cX4_digest 5 6 132 (some .long) none 234 [some (.ref 38), some (.long e1), none, some (.int a3), none] [] m (some (.long v)) m) : ∀ (f : Nat) (v1 : Int64) (v4 : Int32), L_X4_digest_197 n m a3 k f v1 v4 = some v → gn_Go RX4 cX4_digest 5 6 132 (some .long) none 197 [some (.ref 38), some (.long v1), none, some (.int a3), some (.int v4)] [] m (some (.long v)) m := by
  intro f
  induction f with
  | zero =>
    intro v1 v4 h
    cases h
  | succ f ih =>
    intro v1 v4 h
    rw [L_X4_digest_197] at h
    refine gr_iload dX4_digest_197 rfl ?_
    refine gr_aload_n dX4_digest_199 rfl rfl ?_
    refine gr_getR q_38_7 fl_X4_23 dX4_digest_200 ?_
    refine gr_iload_n dX4_digest_203 rfl rfl ?_
    refine gq_iaload s_42 dX4_digest_204 h (fun x14 h => ?_)
    refine gr_icmp_ge (tgt := 234) dX4_digest_205 (by decide) h (fun _ h => ?_) (fun _ h => ?_)
    · refine gr_ldc2 kl_X4_253 dX4_digest_208 ?_
      refine gr_lload_n dX4_digest_211 rfl rfl ?_
      refine gr_lmul dX4_digest_212 ?_
      refine gr_aload_n dX4_digest_213 rfl rfl ?_
      refine gr_getR q_38_8 fl_X4_26 dX4_digest_214 ?_
      refine gr_bipush dX4_digest_217 gk_b_60 ?_
      refine gr_iload_n dX4_digest_219 rfl rfl ?_
      refine gr_imul dX4_digest_220 ?_
      refine gr_iload dX4_digest_221 rfl ?_
      refine gr_iadd dX4_digest_223 ?_
      refine gq_baload s_43 dX4_digest_224 h (fun x15 h => ?_)
      refine gr_i2l dX4_digest_225 ?_
      refine gr_ladd dX4_digest_226 ?_
      refine gr_lstore_n (lv' := [some (.ref 38), some (.long (((31 : Int64) * v1) + x15.toInt64)), none, some (.int a3), some (.int v4)]) dX4_digest_227 rfl (by decide) rfl ?_
      refine gr_iinc (lv' := [some (.ref 38), some (.long (((31 : Int64) * v1) + x15.toInt64)), none, some (.int a3), some (.int (v4 + (1 : Int32)))]) dX4_digest_228 rfl gk_i_1 (by decide) rfl ?_
      refine gr_goto (tgt := 197) dX4_digest_231 (by decide) ?_
      exact ih _ _ h
    · refine gn_wkn [true, true, false, true, false] rfl ?_
      exact hk _ h
def L_X4_digest_175 (n : Nat) (m : gn_M) (k : Int64 → Option (Int64)) : Nat → Int64 → Int32 → Option (Int64)
  | 0, _, _ => none
  | f + 1, v1, v3 => (if v3 < (4 : Int32) then gn_rd m 42 4 v3 (fun x13 => L_X4_digest_197 n m v3 (fun (e16 : Int64) => L_X4_digest_175 n m k f e16 (v3 + (1 : Int32))) n (((31 : Int64) * v1) + x13.toInt64) (0 : Int32)) else k v1)
set_option maxRecDepth 100000 in
set_option maxHeartbeats 4000000 in
theorem l_X4_digest_175 {n : Nat} {m : gn_M} {k : Int64 → Option (Int64)} {v : Int64} (hk : ∀ (e1 : Int64), k e1 = some v → gn_Go RX4 cX4_digest 5 6 132 (some .long) none 240 [none, some (.long e1), none, none, none] [] m (some (.long v)) m) : ∀ (f : Nat) (v1 : Int64) (v3 : Int32), L_X4_digest_175 n m k f v1 v3 = some v → gn_Go RX4 cX4_digest 5 6 132 (some .long) none 175 [some (.ref 38), some (.long v1), none, some (.int v3), none] [] m (some (.long v)) m := by
  intro f
  induction f with
  | zero =>
    intro v1 v3 h
    cases h
  | succ f ih =>
    intro v1 v3 h
    rw [L_X4_digest_175] at h
    refine gr_iload_n dX4_digest_175 rfl rfl ?_
    refine gr_iconst dX4_digest_176 gk_i_4 ?_
    refine gr_icmp_ge (tgt := 240) dX4_digest_177 (by decide) h (fun _ h => ?_) (fun _ h => ?_)
    · refine gr_ldc2 kl_X4_253 dX4_digest_180 ?_
      refine gr_lload_n dX4_digest_183 rfl rfl ?_
      refine gr_lmul dX4_digest_184 ?_
      refine gr_aload_n dX4_digest_185 rfl rfl ?_
      refine gr_getR q_38_7 fl_X4_23 dX4_digest_186 ?_
      refine gr_iload_n dX4_digest_189 rfl rfl ?_
      refine gq_iaload s_42 dX4_digest_190 h (fun x13 h => ?_)
      refine gr_i2l dX4_digest_191 ?_
      refine gr_ladd dX4_digest_192 ?_
      refine gr_lstore_n (lv' := [some (.ref 38), some (.long (((31 : Int64) * v1) + x13.toInt64)), none, some (.int v3), none]) dX4_digest_193 rfl (by decide) rfl ?_
      refine gr_iconst dX4_digest_194 gk_i_0 ?_
      refine gr_istore (lv' := [some (.ref 38), some (.long (((31 : Int64) * v1) + x13.toInt64)), none, some (.int v3), some (.int (0 : Int32))]) dX4_digest_195 (by decide) rfl ?_
      refine l_X4_digest_197 (fun e16 h => ?_) _ _ _ h
      refine gr_iinc (lv' := [some (.ref 38), some (.long e16), none, some (.int (v3 + (1 : Int32))), none]) dX4_digest_234 rfl gk_i_1 (by decide) rfl ?_
      refine gr_goto (tgt := 175) dX4_digest_237 (by decide) ?_
      exact ih _ _ h
    · refine gn_wkn [false, true, false, false, false] rfl ?_
      exact hk _ h
def f_X4_digest (n : Nat) (m : gn_M) : Option (Int64) := L_X4_digest_6 n m (fun (e2 : Int64) => L_X4_digest_33 n m (fun (e5 : Int64) => L_X4_digest_80 n m (fun (e7 : Int64) => L_X4_digest_107 n m (fun (e12 : Int64) => L_X4_digest_175 n m (fun (e17 : Int64) => some e17) n e12 (0 : Int32)) n e7 (0 : Int32)) n e5 (0 : Int32)) n e2 (0 : Int32)) n (17 : Int64) (0 : Int32)
set_option maxRecDepth 100000 in
set_option maxHeartbeats 4000000 in
theorem c_X4_digest {n : Nat} {m : gn_M} {v : Int64} (h : f_X4_digest n m = some v) : gn_Cl yX4_digest cX4_digest 5 (some .long) 6 132 [.ref 38] m (some (.long v)) m := by
  rw [f_X4_digest] at h
  refine gn_met (lv := [some (.ref 38), none, none, none, none]) pl_X4 rfl rfl (Nat.le_of_ble_eq_true rfl) ?_
  refine gr_ldc2 kl_X4_251 dX4_digest_0 ?_
  refine gr_lstore_n (lv' := [some (.ref 38), some (.long (17 : Int64)), none, none, none]) dX4_digest_3 rfl (by decide) rfl ?_
  refine gr_iconst dX4_digest_4 gk_i_0 ?_
  refine gr_istore_n (lv' := [some (.ref 38), some (.long (17 : Int64)), none, some (.int (0 : Int32)), none]) dX4_digest_5 rfl (by decide) rfl ?_
  refine l_X4_digest_6 (fun e2 h => ?_) _ _ _ h
  refine gr_iconst dX4_digest_31 gk_i_0 ?_
  refine gr_istore_n (lv' := [some (.ref 38), some (.long e2), none, some (.int (0 : Int32)), none]) dX4_digest_32 rfl (by decide) rfl ?_
  refine l_X4_digest_33 (fun e5 h => ?_) _ _ _ h
  refine gr_iconst dX4_digest_78 gk_i_0 ?_
  refine gr_istore_n (lv' := [some (.ref 38), some (.long e5), none, some (.int (0 : Int32)), none]) dX4_digest_79 rfl (by decide) rfl ?_
  refine l_X4_digest_80 (fun e7 h => ?_) _ _ _ h
  refine gr_iconst dX4_digest_105 gk_i_0 ?_
  refine gr_istore_n (lv' := [some (.ref 38), some (.long e7), none, some (.int (0 : Int32)), none]) dX4_digest_106 rfl (by decide) rfl ?_
  refine l_X4_digest_107 (fun e12 h => ?_) _ _ _ h
  refine gr_iconst dX4_digest_173 gk_i_0 ?_
  refine gr_istore_n (lv' := [some (.ref 38), some (.long e12), none, some (.int (0 : Int32)), none]) dX4_digest_174 rfl (by decide) rfl ?_
  refine l_X4_digest_175 (fun e17 h => ?_) _ _ _ h
  refine gr_lload_n dX4_digest_240 rfl rfl ?_
  exact gq_retL dX4_digest_241 trivial h
