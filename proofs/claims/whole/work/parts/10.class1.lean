def f_X0_left (m : gn_M) : Option (Int32) := some ((((1 : Int32) <<< ((m.1 7 6) &&& 31)) - (1 : Int32)) &&& ((m.1 7 8) ^^^ (-1 : Int32)))
set_option maxRecDepth 100000 in
set_option maxHeartbeats 4000000 in
theorem c_X0_left {m : gn_M} {v : Int32} (h : f_X0_left m = some v) : gn_Cl yX0_left cX0_left 1 (some .int) 0 0 [.ref 7] m (some (.int v)) m := by
  rw [f_X0_left] at h
  refine gn_met (lv := [some (.ref 7)]) pl_X0 rfl rfl (Nat.le_of_ble_eq_true rfl) ?_
  refine gr_iconst dX0_left_0 gk_i_1 ?_
  refine gr_aload_n dX0_left_1 rfl rfl ?_
  refine gr_getI q_7_6 fl_X0_30 dX0_left_2 ?_
  refine gr_ishl dX0_left_5 ?_
  refine gr_iconst dX0_left_6 gk_i_1 ?_
  refine gr_isub dX0_left_7 ?_
  refine gr_aload_n dX0_left_8 rfl rfl ?_
  refine gr_getI q_7_8 fl_X0_37 dX0_left_9 ?_
  refine gr_iconst dX0_left_12 gk_i_m1 ?_
  refine gr_ixor dX0_left_13 ?_
  refine gr_iand dX0_left_14 ?_
  exact gq_retI dX0_left_15 rfl h
def f_X3_mark (n : Nat) (m : gn_M) (p0 : Int32) (p1 : Int32) : Option (Int32 × gn_M) := (f_X0_numbers m p0).bind (fun x1 => (if x1 = 0 then some ((-1 : Int32), m) else (if 0 < p1 then (if p1 < (6 : Int32) then gn_rd m 27 7 p0 (fun x2 => (if x2 = p1 then (if p1 = 1 then (f_X0_toldOf n m p0).bind (fun x3 => (f_J6_bitCount_0f7a4 x3).bind (fun x4 => some ((((m.1 7 6) - (1 : Int32)) - x4), m))) else (if p1 = 2 then (f_X0_namersOf n m p0).bind (fun x5 => (f_X0_toldOf n m p0).bind (fun x6 => (f_J6_bitCount_0f7a4 ((x5 &&& (x6 ^^^ (-1 : Int32))) &&& (((1 : Int32) <<< (p0 &&& 31)) ^^^ (-1 : Int32)))).bind (fun x7 => some (x7, m)))) else (if p1 = 3 then (f_X0_namersOf n m p0).bind (fun x8 => (f_J6_bitCount_0f7a4 (x8 &&& (((1 : Int32) <<< (p0 &&& 31)) ^^^ (-1 : Int32)))).bind (fun x9 => some (x9, m))) else (if p1 = 4 then (f_X0_tellingOf m p0).bind (fun x10 => (f_J6_bitCount_0f7a4 x10).bind (fun x11 => some (x11, m))) else (f_X0_tellingOf m p0).bind (fun x12 => (f_X0_left m).bind (fun x13 => (f_J6_bitCount_0f7a4 (x12 &&& x13)).bind (fun x14 => some (x14, m)))))))) else (if x2 = (5 : Int32) then (if p1 = (4 : Int32) then (if p1 = 1 then (f_X0_toldOf n m p0).bind (fun x15 => (f_J6_bitCount_0f7a4 x15).bind (fun x16 => some ((((m.1 7 6) - (1 : Int32)) - x16), m))) else (if p1 = 2 then (f_X0_namersOf n m p0).bind (fun x17 => (f_X0_toldOf n m p0).bind (fun x18 => (f_J6_bitCount_0f7a4 ((x17 &&& (x18 ^^^ (-1 : Int32))) &&& (((1 : Int32) <<< (p0 &&& 31)) ^^^ (-1 : Int32)))).bind (fun x19 => some (x19, m)))) else (if p1 = 3 then (f_X0_namersOf n m p0).bind (fun x20 => (f_J6_bitCount_0f7a4 (x20 &&& (((1 : Int32) <<< (p0 &&& 31)) ^^^ (-1 : Int32)))).bind (fun x21 => some (x21, m))) else (if p1 = 4 then (f_X0_tellingOf m p0).bind (fun x22 => (f_J6_bitCount_0f7a4 x22).bind (fun x23 => some (x23, m))) else (f_X0_tellingOf m p0).bind (fun x24 => (f_X0_left m).bind (fun x25 => (f_J6_bitCount_0f7a4 (x24 &&& x25)).bind (fun x26 => some (x26, m)))))))) else (f_X3_found m (3 : Int32)).bind (fun x27 => some (x27.1, x27.2))) else (f_X3_found m (3 : Int32)).bind (fun x28 => some (x28.1, x28.2))))) else some ((-1 : Int32), m)) else some ((-1 : Int32), m))))
set_option maxRecDepth 100000 in
set_option maxHeartbeats 4000000 in
theorem c_X3_mark {n : Nat} {m : gn_M} {p0 : Int32} {p1 : Int32} {v : Int32 × gn_M} (h : f_X3_mark n m p0 p1 = some v) : gn_Cl yX3_mark cX3_mark 4 (some .int) 2 46 [.ref 0, .int p0, .int p1] m (some (.int v.1)) v.2 := by
  rw [f_X3_mark] at h
  refine gn_met (lv := [some (.ref 0), some (.int p0), some (.int p1), none]) pl_X3 rfl rfl (Nat.le_of_ble_eq_true rfl) ?_
  refine gr_aload_n dX3_mark_0 rfl rfl ?_
  refine gr_getR q_0_2 fl_X3_24 dX3_mark_1 ?_
  refine gr_iload_n dX3_mark_4 rfl rfl ?_
  obtain ⟨x1, hx1, h⟩ := gn_bd h
  refine gc_VNI (c_X0_numbers hx1) my_X0_numbers mv_X0_numbers ob_7 ml_X3_129 rfl rfl ⟨Nat.le_of_ble_eq_true rfl, Nat.le_of_ble_eq_true rfl⟩ (Nat.le_of_ble_eq_true rfl) dX3_mark_5 (fun fx1 => ?_)
  refine gr_if_eq (tgt := 21) dX3_mark_8 (by decide) h (fun _ h => ?_) (fun _ h => ?_)
  · refine gr_iconst dX3_mark_21 gk_i_m1 ?_
    exact gq_retIM dX3_mark_22 rfl h
  · refine gr_iload_n dX3_mark_11 rfl rfl ?_
    refine gr_if_le (tgt := 21) dX3_mark_12 (by decide) h (fun _ h => ?_) (fun _ h => ?_)
    · refine gr_iload_n dX3_mark_15 rfl rfl ?_
      refine gr_bipush dX3_mark_16 gk_b_6 ?_
      refine gr_icmp_lt (tgt := 23) dX3_mark_18 (by decide) h (fun _ h => ?_) (fun _ h => ?_)
      · refine gr_aload_n dX3_mark_23 rfl rfl ?_
        refine gr_getR q_0_2 fl_X3_24 dX3_mark_24 ?_
        refine gr_getRN q_7_0 fl_X3_134 dX3_mark_27 ?_
        refine gr_iload_n dX3_mark_30 rfl rfl ?_
        refine gq_iaload s_27 dX3_mark_31 h (fun x2 h => ?_)
        refine gr_istore_n (lv' := [some (.ref 0), some (.int p0), some (.int p1), some (.int x2)]) dX3_mark_32 rfl (by decide) rfl ?_
        refine gr_iload_n dX3_mark_33 rfl rfl ?_
        refine gr_iload_n dX3_mark_34 rfl rfl ?_
        refine gr_icmp_eq (tgt := 54) dX3_mark_35 (by decide) h (fun _ h => ?_) (fun _ h => ?_)
        · refine gr_iload_n dX3_mark_54 rfl rfl ?_
          refine gn_sw h (fun hs0 h => ?_) (fun hs0 h => ?_)
          · refine gr_tsIn (tgt := 84) dX3_mark_55 hs0 (by decide) (by decide) rfl (by decide) ?_
            refine gr_aload_n dX3_mark_84 rfl rfl ?_
            refine gr_getR q_0_2 fl_X3_24 dX3_mark_85 ?_
            refine gr_getIN q_7_6 fl_X3_126 dX3_mark_88 ?_
            refine gr_iconst dX3_mark_91 gk_i_1 ?_
            refine gr_isub dX3_mark_92 ?_
            refine gr_aload_n dX3_mark_93 rfl rfl ?_
            refine gr_getR q_0_2 fl_X3_24 dX3_mark_94 ?_
            refine gr_iload_n dX3_mark_97 rfl rfl ?_
            obtain ⟨x3, hx3, h⟩ := gn_bd h
            refine gc_VNI (c_X0_toldOf hx3) my_X0_toldOf mv_X0_toldOf ob_7 ml_X3_137 rfl rfl ⟨Nat.le_of_ble_eq_true rfl, Nat.le_of_ble_eq_true rfl⟩ (Nat.le_of_ble_eq_true rfl) dX3_mark_98 (fun fx3 => ?_)
            obtain ⟨x4, hx4, h⟩ := gn_bd h
            refine gc_SI (c_J6_bitCount_0f7a4 hx4) my_J6_bitCount_0f7a4 ms_J6_bitCount_0f7a4 ml_X3_140 rfl rfl ⟨Nat.le_of_ble_eq_true rfl, Nat.le_of_ble_eq_true rfl⟩ (Nat.le_of_ble_eq_true rfl) dX3_mark_101 (fun fx4 => ?_)
            refine gr_isub dX3_mark_104 ?_
            exact gq_retIM dX3_mark_105 rfl h
          refine gn_sw h (fun hs1 h => ?_) (fun hs1 h => ?_)
          · refine gr_tsIn (tgt := 106) dX3_mark_55 hs1 (by decide) (by decide) rfl (by decide) ?_
            refine gr_aload_n dX3_mark_106 rfl rfl ?_
            refine gr_getR q_0_2 fl_X3_24 dX3_mark_107 ?_
            refine gr_iload_n dX3_mark_110 rfl rfl ?_
            obtain ⟨x5, hx5, h⟩ := gn_bd h
            refine gc_VNI (c_X0_namersOf hx5) my_X0_namersOf mv_X0_namersOf ob_7 ml_X3_145 rfl rfl ⟨Nat.le_of_ble_eq_true rfl, Nat.le_of_ble_eq_true rfl⟩ (Nat.le_of_ble_eq_true rfl) dX3_mark_111 (fun fx5 => ?_)
            refine gr_aload_n dX3_mark_114 rfl rfl ?_
            refine gr_getR q_0_2 fl_X3_24 dX3_mark_115 ?_
            refine gr_iload_n dX3_mark_118 rfl rfl ?_
            obtain ⟨x6, hx6, h⟩ := gn_bd h
            refine gc_VNI (c_X0_toldOf hx6) my_X0_toldOf mv_X0_toldOf ob_7 ml_X3_137 rfl rfl ⟨Nat.le_of_ble_eq_true rfl, Nat.le_of_ble_eq_true rfl⟩ (Nat.le_of_ble_eq_true rfl) dX3_mark_119 (fun fx6 => ?_)
            refine gr_iconst dX3_mark_122 gk_i_m1 ?_
            refine gr_ixor dX3_mark_123 ?_
            refine gr_iand dX3_mark_124 ?_
            refine gr_iconst dX3_mark_125 gk_i_1 ?_
            refine gr_iload_n dX3_mark_126 rfl rfl ?_
            refine gr_ishl dX3_mark_127 ?_
            refine gr_iconst dX3_mark_128 gk_i_m1 ?_
            refine gr_ixor dX3_mark_129 ?_
            refine gr_iand dX3_mark_130 ?_
            obtain ⟨x7, hx7, h⟩ := gn_bd h
            refine gc_SI (c_J6_bitCount_0f7a4 hx7) my_J6_bitCount_0f7a4 ms_J6_bitCount_0f7a4 ml_X3_140 rfl rfl ⟨Nat.le_of_ble_eq_true rfl, Nat.le_of_ble_eq_true rfl⟩ (Nat.le_of_ble_eq_true rfl) dX3_mark_131 (fun fx7 => ?_)
            exact gq_retIM dX3_mark_134 rfl h
          refine gn_sw h (fun hs2 h => ?_) (fun hs2 h => ?_)
          · refine gr_tsIn (tgt := 135) dX3_mark_55 hs2 (by decide) (by decide) rfl (by decide) ?_
            refine gr_aload_n dX3_mark_135 rfl rfl ?_
            refine gr_getR q_0_2 fl_X3_24 dX3_mark_136 ?_
            refine gr_iload_n dX3_mark_139 rfl rfl ?_
            obtain ⟨x8, hx8, h⟩ := gn_bd h
            refine gc_VNI (c_X0_namersOf hx8) my_X0_namersOf mv_X0_namersOf ob_7 ml_X3_145 rfl rfl ⟨Nat.le_of_ble_eq_true rfl, Nat.le_of_ble_eq_true rfl⟩ (Nat.le_of_ble_eq_true rfl) dX3_mark_140 (fun fx8 => ?_)
            refine gr_iconst dX3_mark_143 gk_i_1 ?_
            refine gr_iload_n dX3_mark_144 rfl rfl ?_
            refine gr_ishl dX3_mark_145 ?_
            refine gr_iconst dX3_mark_146 gk_i_m1 ?_
            refine gr_ixor dX3_mark_147 ?_
            refine gr_iand dX3_mark_148 ?_
            obtain ⟨x9, hx9, h⟩ := gn_bd h
            refine gc_SI (c_J6_bitCount_0f7a4 hx9) my_J6_bitCount_0f7a4 ms_J6_bitCount_0f7a4 ml_X3_140 rfl rfl ⟨Nat.le_of_ble_eq_true rfl, Nat.le_of_ble_eq_true rfl⟩ (Nat.le_of_ble_eq_true rfl) dX3_mark_149 (fun fx9 => ?_)
            exact gq_retIM dX3_mark_152 rfl h
          refine gn_sw h (fun hs3 h => ?_) (fun hs3 h => ?_)
          · refine gr_tsIn (tgt := 153) dX3_mark_55 hs3 (by decide) (by decide) rfl (by decide) ?_
            refine gr_aload_n dX3_mark_153 rfl rfl ?_
            refine gr_getR q_0_2 fl_X3_24 dX3_mark_154 ?_
            refine gr_iload_n dX3_mark_157 rfl rfl ?_
            obtain ⟨x10, hx10, h⟩ := gn_bd h
            refine gc_VNI (c_X0_tellingOf hx10) my_X0_tellingOf mv_X0_tellingOf ob_7 ml_X3_148 rfl rfl ⟨Nat.le_of_ble_eq_true rfl, Nat.le_of_ble_eq_true rfl⟩ (Nat.le_of_ble_eq_true rfl) dX3_mark_158 (fun fx10 => ?_)
            obtain ⟨x11, hx11, h⟩ := gn_bd h
            refine gc_SI (c_J6_bitCount_0f7a4 hx11) my_J6_bitCount_0f7a4 ms_J6_bitCount_0f7a4 ml_X3_140 rfl rfl ⟨Nat.le_of_ble_eq_true rfl, Nat.le_of_ble_eq_true rfl⟩ (Nat.le_of_ble_eq_true rfl) dX3_mark_161 (fun fx11 => ?_)
            exact gq_retIM dX3_mark_164 rfl h
          refine gr_tsOut (tgt := 165) dX3_mark_55 (by have := gn_out (x := p1) 4 1 (fun j hj => match j, hj with | 0, _ => hs0 | 1, _ => hs1 | 2, _ => hs2 | 3, _ => hs3 | j + 4, hj => absurd hj (by omega)); omega) (by decide) ?_
          refine gr_aload_n dX3_mark_165 rfl rfl ?_
          refine gr_getR q_0_2 fl_X3_24 dX3_mark_166 ?_
          refine gr_iload_n dX3_mark_169 rfl rfl ?_
          obtain ⟨x12, hx12, h⟩ := gn_bd h
          refine gc_VNI (c_X0_tellingOf hx12) my_X0_tellingOf mv_X0_tellingOf ob_7 ml_X3_148 rfl rfl ⟨Nat.le_of_ble_eq_true rfl, Nat.le_of_ble_eq_true rfl⟩ (Nat.le_of_ble_eq_true rfl) dX3_mark_170 (fun fx12 => ?_)
          refine gr_aload_n dX3_mark_173 rfl rfl ?_
          refine gr_getR q_0_2 fl_X3_24 dX3_mark_174 ?_
          obtain ⟨x13, hx13, h⟩ := gn_bd h
          refine gc_VNI (c_X0_left hx13) my_X0_left mv_X0_left ob_7 ml_X3_151 rfl rfl ⟨Nat.le_of_ble_eq_true rfl, Nat.le_of_ble_eq_true rfl⟩ (Nat.le_of_ble_eq_true rfl) dX3_mark_177 (fun fx13 => ?_)
          refine gr_iand dX3_mark_180 ?_
          obtain ⟨x14, hx14, h⟩ := gn_bd h
          refine gc_SI (c_J6_bitCount_0f7a4 hx14) my_J6_bitCount_0f7a4 ms_J6_bitCount_0f7a4 ml_X3_140 rfl rfl ⟨Nat.le_of_ble_eq_true rfl, Nat.le_of_ble_eq_true rfl⟩ (Nat.le_of_ble_eq_true rfl) dX3_mark_181 (fun fx14 => ?_)
          exact gq_retIM dX3_mark_184 rfl h
        · refine gr_iload_n dX3_mark_38 rfl rfl ?_
          refine gr_iconst dX3_mark_39 gk_i_5 ?_
          refine gr_icmp_ne (tgt := 48) dX3_mark_40 (by decide) h (fun _ h => ?_) (fun _ h => ?_)
          · refine gr_iload_n dX3_mark_43 rfl rfl ?_
            refine gr_iconst dX3_mark_44 gk_i_4 ?_
            refine gr_icmp_eq (tgt := 54) dX3_mark_45 (by decide) h (fun _ h => ?_) (fun _ h => ?_)
            · refine gr_iload_n dX3_mark_54 rfl rfl ?_
              refine gn_sw h (fun hs0 h => ?_) (fun hs0 h => ?_)
              · refine gr_tsIn (tgt := 84) dX3_mark_55 hs0 (by decide) (by decide) rfl (by decide) ?_
                refine gr_aload_n dX3_mark_84 rfl rfl ?_
                refine gr_getR q_0_2 fl_X3_24 dX3_mark_85 ?_
                refine gr_getIN q_7_6 fl_X3_126 dX3_mark_88 ?_
                refine gr_iconst dX3_mark_91 gk_i_1 ?_
                refine gr_isub dX3_mark_92 ?_
                refine gr_aload_n dX3_mark_93 rfl rfl ?_
                refine gr_getR q_0_2 fl_X3_24 dX3_mark_94 ?_
                refine gr_iload_n dX3_mark_97 rfl rfl ?_
                obtain ⟨x15, hx15, h⟩ := gn_bd h
                refine gc_VNI (c_X0_toldOf hx15) my_X0_toldOf mv_X0_toldOf ob_7 ml_X3_137 rfl rfl ⟨Nat.le_of_ble_eq_true rfl, Nat.le_of_ble_eq_true rfl⟩ (Nat.le_of_ble_eq_true rfl) dX3_mark_98 (fun fx15 => ?_)
                obtain ⟨x16, hx16, h⟩ := gn_bd h
                refine gc_SI (c_J6_bitCount_0f7a4 hx16) my_J6_bitCount_0f7a4 ms_J6_bitCount_0f7a4 ml_X3_140 rfl rfl ⟨Nat.le_of_ble_eq_true rfl, Nat.le_of_ble_eq_true rfl⟩ (Nat.le_of_ble_eq_true rfl) dX3_mark_101 (fun fx16 => ?_)
                refine gr_isub dX3_mark_104 ?_
                exact gq_retIM dX3_mark_105 rfl h
              refine gn_sw h (fun hs1 h => ?_) (fun hs1 h => ?_)
              · refine gr_tsIn (tgt := 106) dX3_mark_55 hs1 (by decide) (by decide) rfl (by decide) ?_
                refine gr_aload_n dX3_mark_106 rfl rfl ?_
                refine gr_getR q_0_2 fl_X3_24 dX3_mark_107 ?_
                refine gr_iload_n dX3_mark_110 rfl rfl ?_
                obtain ⟨x17, hx17, h⟩ := gn_bd h
                refine gc_VNI (c_X0_namersOf hx17) my_X0_namersOf mv_X0_namersOf ob_7 ml_X3_145 rfl rfl ⟨Nat.le_of_ble_eq_true rfl, Nat.le_of_ble_eq_true rfl⟩ (Nat.le_of_ble_eq_true rfl) dX3_mark_111 (fun fx17 => ?_)
                refine gr_aload_n dX3_mark_114 rfl rfl ?_
                refine gr_getR q_0_2 fl_X3_24 dX3_mark_115 ?_
                refine gr_iload_n dX3_mark_118 rfl rfl ?_
                obtain ⟨x18, hx18, h⟩ := gn_bd h
                refine gc_VNI (c_X0_toldOf hx18) my_X0_toldOf mv_X0_toldOf ob_7 ml_X3_137 rfl rfl ⟨Nat.le_of_ble_eq_true rfl, Nat.le_of_ble_eq_true rfl⟩ (Nat.le_of_ble_eq_true rfl) dX3_mark_119 (fun fx18 => ?_)
                refine gr_iconst dX3_mark_122 gk_i_m1 ?_
                refine gr_ixor dX3_mark_123 ?_
                refine gr_iand dX3_mark_124 ?_
                refine gr_iconst dX3_mark_125 gk_i_1 ?_
                refine gr_iload_n dX3_mark_126 rfl rfl ?_
                refine gr_ishl dX3_mark_127 ?_
                refine gr_iconst dX3_mark_128 gk_i_m1 ?_
                refine gr_ixor dX3_mark_129 ?_
                refine gr_iand dX3_mark_130 ?_
                obtain ⟨x19, hx19, h⟩ := gn_bd h
                refine gc_SI (c_J6_bitCount_0f7a4 hx19) my_J6_bitCount_0f7a4 ms_J6_bitCount_0f7a4 ml_X3_140 rfl rfl ⟨Nat.le_of_ble_eq_true rfl, Nat.le_of_ble_eq_true rfl⟩ (Nat.le_of_ble_eq_true rfl) dX3_mark_131 (fun fx19 => ?_)
                exact gq_retIM dX3_mark_134 rfl h
              refine gn_sw h (fun hs2 h => ?_) (fun hs2 h => ?_)
              · refine gr_tsIn (tgt := 135) dX3_mark_55 hs2 (by decide) (by decide) rfl (by decide) ?_
                refine gr_aload_n dX3_mark_135 rfl rfl ?_
                refine gr_getR q_0_2 fl_X3_24 dX3_mark_136 ?_
                refine gr_iload_n dX3_mark_139 rfl rfl ?_
                obtain ⟨x20, hx20, h⟩ := gn_bd h
                refine gc_VNI (c_X0_namersOf hx20) my_X0_namersOf mv_X0_namersOf ob_7 ml_X3_145 rfl rfl ⟨Nat.le_of_ble_eq_true rfl, Nat.le_of_ble_eq_true rfl⟩ (Nat.le_of_ble_eq_true rfl) dX3_mark_140 (fun fx20 => ?_)
                refine gr_iconst dX3_mark_143 gk_i_1 ?_
                refine gr_iload_n dX3_mark_144 rfl rfl ?_
                refine gr_ishl dX3_mark_145 ?_
                refine gr_iconst dX3_mark_146 gk_i_m1 ?_
                refine gr_ixor dX3_mark_147 ?_
                refine gr_iand dX3_mark_148 ?_
                obtain ⟨x21, hx21, h⟩ := gn_bd h
                refine gc_SI (c_J6_bitCount_0f7a4 hx21) my_J6_bitCount_0f7a4 ms_J6_bitCount_0f7a4 ml_X3_140 rfl rfl ⟨Nat.le_of_ble_eq_true rfl, Nat.le_of_ble_eq_true rfl⟩ (Nat.le_of_ble_eq_true rfl) dX3_mark_149 (fun fx21 => ?_)
                exact gq_retIM dX3_mark_152 rfl h
              refine gn_sw h (fun hs3 h => ?_) (fun hs3 h => ?_)
              · refine gr_tsIn (tgt := 153) dX3_mark_55 hs3 (by decide) (by decide) rfl (by decide) ?_
                refine gr_aload_n dX3_mark_153 rfl rfl ?_
                refine gr_getR q_0_2 fl_X3_24 dX3_mark_154 ?_
                refine gr_iload_n dX3_mark_157 rfl rfl ?_
                obtain ⟨x22, hx22, h⟩ := gn_bd h
                refine gc_VNI (c_X0_tellingOf hx22) my_X0_tellingOf mv_X0_tellingOf ob_7 ml_X3_148 rfl rfl ⟨Nat.le_of_ble_eq_true rfl, Nat.le_of_ble_eq_true rfl⟩ (Nat.le_of_ble_eq_true rfl) dX3_mark_158 (fun fx22 => ?_)
                obtain ⟨x23, hx23, h⟩ := gn_bd h
                refine gc_SI (c_J6_bitCount_0f7a4 hx23) my_J6_bitCount_0f7a4 ms_J6_bitCount_0f7a4 ml_X3_140 rfl rfl ⟨Nat.le_of_ble_eq_true rfl, Nat.le_of_ble_eq_true rfl⟩ (Nat.le_of_ble_eq_true rfl) dX3_mark_161 (fun fx23 => ?_)
                exact gq_retIM dX3_mark_164 rfl h
              refine gr_tsOut (tgt := 165) dX3_mark_55 (by have := gn_out (x := p1) 4 1 (fun j hj => match j, hj with | 0, _ => hs0 | 1, _ => hs1 | 2, _ => hs2 | 3, _ => hs3 | j + 4, hj => absurd hj (by omega)); omega) (by decide) ?_
              refine gr_aload_n dX3_mark_165 rfl rfl ?_
              refine gr_getR q_0_2 fl_X3_24 dX3_mark_166 ?_
              refine gr_iload_n dX3_mark_169 rfl rfl ?_
              obtain ⟨x24, hx24, h⟩ := gn_bd h
              refine gc_VNI (c_X0_tellingOf hx24) my_X0_tellingOf mv_X0_tellingOf ob_7 ml_X3_148 rfl rfl ⟨Nat.le_of_ble_eq_true rfl, Nat.le_of_ble_eq_true rfl⟩ (Nat.le_of_ble_eq_true rfl) dX3_mark_170 (fun fx24 => ?_)
              refine gr_aload_n dX3_mark_173 rfl rfl ?_
              refine gr_getR q_0_2 fl_X3_24 dX3_mark_174 ?_
              obtain ⟨x25, hx25, h⟩ := gn_bd h
              refine gc_VNI (c_X0_left hx25) my_X0_left mv_X0_left ob_7 ml_X3_151 rfl rfl ⟨Nat.le_of_ble_eq_true rfl, Nat.le_of_ble_eq_true rfl⟩ (Nat.le_of_ble_eq_true rfl) dX3_mark_177 (fun fx25 => ?_)
              refine gr_iand dX3_mark_180 ?_
              obtain ⟨x26, hx26, h⟩ := gn_bd h
              refine gc_SI (c_J6_bitCount_0f7a4 hx26) my_J6_bitCount_0f7a4 ms_J6_bitCount_0f7a4 ml_X3_140 rfl rfl ⟨Nat.le_of_ble_eq_true rfl, Nat.le_of_ble_eq_true rfl⟩ (Nat.le_of_ble_eq_true rfl) dX3_mark_181 (fun fx26 => ?_)
              exact gq_retIM dX3_mark_184 rfl h
            · refine gr_aload_n dX3_mark_48 rfl rfl ?_
              refine gr_iconst dX3_mark_49 gk_i_3 ?_
              obtain ⟨x27, hx27, h⟩ := gn_bd h
              refine gc_VI (c_X3_found hx27) my_X3_found mv_X3_found ob_0 ml_X3_99 rfl rfl ⟨Nat.le_of_ble_eq_true rfl, Nat.le_of_ble_eq_true rfl⟩ (Nat.le_of_ble_eq_true rfl) dX3_mark_50 (fun fx27 => ?_)
              exact gq_retIM dX3_mark_53 rfl h
          · refine gr_aload_n dX3_mark_48 rfl rfl ?_
            refine gr_iconst dX3_mark_49 gk_i_3 ?_
            obtain ⟨x28, hx28, h⟩ := gn_bd h
            refine gc_VI (c_X3_found hx28) my_X3_found mv_X3_found ob_0 ml_X3_99 rfl rfl ⟨Nat.le_of_ble_eq_true rfl, Nat.le_of_ble_eq_true rfl⟩ (Nat.le_of_ble_eq_true rfl) dX3_mark_50 (fun fx28 => ?_)
            exact gq_retIM dX3_mark_53 rfl h
      · refine gr_iconst dX3_mark_21 gk_i_m1 ?_
        exact gq_retIM dX3_mark_22 rfl h
    · refine gr_iconst dX3_mark_21 gk_i_m1 ?_
      exact gq_retIM dX3_mark_22 rfl h
def f_X0_holds (m : gn_M) (p0 : Int32) : Option (Int32) := (if p0 < 0 then some (0 : Int32) else (if p0 < ((1 : Int32) <<< ((m.1 7 6) &&& 31)) then some (1 : Int32) else some (0 : Int32)))
set_option maxRecDepth 100000 in
set_option maxHeartbeats 4000000 in
theorem c_X0_holds {m : gn_M} {p0 : Int32} {v : Int32} (h : f_X0_holds m p0 = some v) : gn_Cl yX0_holds cX0_holds 2 (some .boolean) 0 0 [.ref 7, .int p0] m (some (.int v)) m := by
  rw [f_X0_holds] at h
  refine gn_met (lv := [some (.ref 7), some (.int p0)]) pl_X0 rfl rfl (Nat.le_of_ble_eq_true rfl) ?_
  refine gr_iload_n dX0_holds_0 rfl rfl ?_
  refine gr_if_lt (tgt := 18) dX0_holds_1 (by decide) h (fun _ h => ?_) (fun _ h => ?_)
  · refine gr_iconst dX0_holds_18 gk_i_0 ?_
    exact gq_retI dX0_holds_19 rfl h
  · refine gr_iload_n dX0_holds_4 rfl rfl ?_
    refine gr_iconst dX0_holds_5 gk_i_1 ?_
    refine gr_aload_n dX0_holds_6 rfl rfl ?_
    refine gr_getI q_7_6 fl_X0_30 dX0_holds_7 ?_
    refine gr_ishl dX0_holds_10 ?_
    refine gr_icmp_ge (tgt := 18) dX0_holds_11 (by decide) h (fun _ h => ?_) (fun _ h => ?_)
    · refine gr_iconst dX0_holds_14 gk_i_1 ?_
      refine gr_goto (tgt := 19) dX0_holds_15 (by decide) ?_
      exact gq_retI dX0_holds_19 rfl h
    · refine gr_iconst dX0_holds_18 gk_i_0 ?_
      exact gq_retI dX0_holds_19 rfl h
def f_X3_tells (m : gn_M) (p0 : Int32) (p1 : Int32) : Option (Int32) := (f_X0_numbers m p0).bind (fun x1 => (if x1 = 0 then some (-1 : Int32) else (f_X0_holds m p1).bind (fun x2 => (if x2 = 0 then some (-1 : Int32) else gn_rd m 27 7 p0 (fun x3 => (f_X3_tellingAs x3 p0 p1).bind (fun x4 => some x4))))))
set_option maxRecDepth 100000 in
set_option maxHeartbeats 4000000 in
theorem c_X3_tells {m : gn_M} {p0 : Int32} {p1 : Int32} {v : Int32} (h : f_X3_tells m p0 p1 = some v) : gn_Cl yX3_tells cX3_tells 3 (some .int) 1 23 [.ref 0, .int p0, .int p1] m (some (.int v)) m := by
  rw [f_X3_tells] at h
  refine gn_met (lv := [some (.ref 0), some (.int p0), some (.int p1)]) pl_X3 rfl rfl (Nat.le_of_ble_eq_true rfl) ?_
  refine gr_aload_n dX3_tells_0 rfl rfl ?_
  refine gr_getR q_0_2 fl_X3_24 dX3_tells_1 ?_
  refine gr_iload_n dX3_tells_4 rfl rfl ?_
  obtain ⟨x1, hx1, h⟩ := gn_bd h
  refine gc_VNI (c_X0_numbers hx1) my_X0_numbers mv_X0_numbers ob_7 ml_X3_129 rfl rfl ⟨Nat.le_of_ble_eq_true rfl, Nat.le_of_ble_eq_true rfl⟩ (Nat.le_of_ble_eq_true rfl) dX3_tells_5 (fun fx1 => ?_)
  refine gr_if_eq (tgt := 22) dX3_tells_8 (by decide) h (fun _ h => ?_) (fun _ h => ?_)
  · refine gr_iconst dX3_tells_22 gk_i_m1 ?_
    exact gq_retI dX3_tells_23 rfl h
  · refine gr_aload_n dX3_tells_11 rfl rfl ?_
    refine gr_getR q_0_2 fl_X3_24 dX3_tells_12 ?_
    refine gr_iload_n dX3_tells_15 rfl rfl ?_
    obtain ⟨x2, hx2, h⟩ := gn_bd h
    refine gc_VNI (c_X0_holds hx2) my_X0_holds mv_X0_holds ob_7 ml_X3_155 rfl rfl ⟨Nat.le_of_ble_eq_true rfl, Nat.le_of_ble_eq_true rfl⟩ (Nat.le_of_ble_eq_true rfl) dX3_tells_16 (fun fx2 => ?_)
    refine gr_if_ne (tgt := 24) dX3_tells_19 (by decide) h (fun _ h => ?_) (fun _ h => ?_)
    · refine gr_iconst dX3_tells_22 gk_i_m1 ?_
      exact gq_retI dX3_tells_23 rfl h
    · refine gr_aload_n dX3_tells_24 rfl rfl ?_
      refine gr_getR q_0_2 fl_X3_24 dX3_tells_25 ?_
      refine gr_getRN q_7_0 fl_X3_134 dX3_tells_28 ?_
      refine gr_iload_n dX3_tells_31 rfl rfl ?_
      refine gq_iaload s_27 dX3_tells_32 h (fun x3 h => ?_)
      refine gr_iload_n dX3_tells_33 rfl rfl ?_
      refine gr_iload_n dX3_tells_34 rfl rfl ?_
      obtain ⟨x4, hx4, h⟩ := gn_bd h
      refine gc_SI (c_X3_tellingAs hx4) my_X3_tellingAs ms_X3_tellingAs ml_X3_158 rfl rfl ⟨Nat.le_of_ble_eq_true rfl, Nat.le_of_ble_eq_true rfl⟩ (Nat.le_of_ble_eq_true rfl) dX3_tells_35 (fun fx4 => ?_)
      exact gq_retI dX3_tells_38 rfl h
def f_X0_canMeet (m : gn_M) (p0 : Int32) (p1 : Int32) : Option (Int32) := (if p0 = p1 then some (0 : Int32) else (f_X0_waits m p0).bind (fun x1 => (if x1 = 0 then some (0 : Int32) else (f_X0_waits m p1).bind (fun x2 => (if x2 = 0 then some (0 : Int32) else some (1 : Int32))))))
set_option maxRecDepth 100000 in
set_option maxHeartbeats 4000000 in
theorem c_X0_canMeet {m : gn_M} {p0 : Int32} {p1 : Int32} {v : Int32} (h : f_X0_canMeet m p0 p1 = some v) : gn_Cl yX0_canMeet cX0_canMeet 3 (some .boolean) 2 42 [.ref 7, .int p0, .int p1] m (some (.int v)) m := by
  rw [f_X0_canMeet] at h
  refine gn_met (lv := [some (.ref 7), some (.int p0), some (.int p1)]) pl_X0 rfl rfl (Nat.le_of_ble_eq_true rfl) ?_
  refine gr_iload_n dX0_canMeet_0 rfl rfl ?_
  refine gr_iload_n dX0_canMeet_1 rfl rfl ?_
  refine gr_icmp_eq (tgt := 25) dX0_canMeet_2 (by decide) h (fun _ h => ?_) (fun _ h => ?_)
  · refine gr_iconst dX0_canMeet_25 gk_i_0 ?_
    exact gq_retI dX0_canMeet_26 rfl h
  · refine gr_aload_n dX0_canMeet_5 rfl rfl ?_
    refine gr_iload_n dX0_canMeet_6 rfl rfl ?_
    obtain ⟨x1, hx1, h⟩ := gn_bd h
    refine gc_VI (c_X0_waits hx1) my_X0_waits mv_X0_waits ob_7 ml_X0_50 rfl rfl ⟨Nat.le_of_ble_eq_true rfl, Nat.le_of_ble_eq_true rfl⟩ (Nat.le_of_ble_eq_true rfl) dX0_canMeet_7 (fun fx1 => ?_)
    refine gr_if_eq (tgt := 25) dX0_canMeet_10 (by decide) h (fun _ h => ?_) (fun _ h => ?_)
    · refine gr_iconst dX0_canMeet_25 gk_i_0 ?_
      exact gq_retI dX0_canMeet_26 rfl h
    · refine gr_aload_n dX0_canMeet_13 rfl rfl ?_
      refine gr_iload_n dX0_canMeet_14 rfl rfl ?_
      obtain ⟨x2, hx2, h⟩ := gn_bd h
      refine gc_VI (c_X0_waits hx2) my_X0_waits mv_X0_waits ob_7 ml_X0_50 rfl rfl ⟨Nat.le_of_ble_eq_true rfl, Nat.le_of_ble_eq_true rfl⟩ (Nat.le_of_ble_eq_true rfl) dX0_canMeet_15 (fun fx2 => ?_)
      refine gr_if_eq (tgt := 25) dX0_canMeet_18 (by decide) h (fun _ h => ?_) (fun _ h => ?_)
      · refine gr_iconst dX0_canMeet_25 gk_i_0 ?_
        exact gq_retI dX0_canMeet_26 rfl h
      · refine gr_iconst dX0_canMeet_21 gk_i_1 ?_
        refine gr_goto (tgt := 26) dX0_canMeet_22 (by decide) ?_
        exact gq_retI dX0_canMeet_26 rfl h
def f_X0_spare (m : gn_M) : Option (Int32) := some ((40 : Int32) - (m.1 7 7))
set_option maxRecDepth 100000 in
set_option maxHeartbeats 4000000 in
theorem c_X0_spare {m : gn_M} {v : Int32} (h : f_X0_spare m = some v) : gn_Cl yX0_spare cX0_spare 1 (some .int) 0 0 [.ref 7] m (some (.int v)) m := by
  rw [f_X0_spare] at h
  refine gn_met (lv := [some (.ref 7)]) pl_X0 rfl rfl (Nat.le_of_ble_eq_true rfl) ?_
  refine gr_bipush dX0_spare_0 gk_b_40 ?_
  refine gr_aload_n dX0_spare_2 rfl rfl ?_
  refine gr_getI q_7_7 fl_X0_34 dX0_spare_3 ?_
  refine gr_isub dX0_spare_6 ?_
  exact gq_retI dX0_spare_7 rfl h
def L_X0_tellings_4 (n : Nat) (m : gn_M) (k : Int32 → Option (Int32)) : Nat → Int32 → Int32 → Option (Int32)
  | 0, _, _ => none
  | f + 1, v1, v2 => (if v2 < (m.1 7 6) then gn_rd m 30 7 v2 (fun x1 => (f_J6_bitCount_0f7a4 x1).bind (fun x2 => L_X0_tellings_4 n m k f (v1 + x2) (v2 + (1 : Int32)))) else k v1)
set_option maxRecDepth 100000 in
set_option maxHeartbeats 4000000 in
theorem l_X0_tellings_4 {n : Nat} {m : gn_M} {k : Int32 → Option (Int32)} {v : Int32} (hk : ∀ (e1 : Int32), k e1 = some v → gn_Go RX0 cX0_tellings 3 1 20 (some .int) none 30 [none, some (.int e1), none] [] m (some (.int v)) m) : ∀ (f : Nat) (v1 : Int32) (v2 : Int32), L_X0_tellings_4 n m k f v1 v2 = some v → gn_Go RX0 cX0_tellings 3 1 20 (some .int) none 4 [some (.ref 7), some (.int v1), some (.int v2)] [] m (some (.int v)) m := by
  intro f
  induction f with
  | zero =>
    intro v1 v2 h
    cases h
  | succ f ih =>
    intro v1 v2 h
    rw [L_X0_tellings_4] at h
    refine gr_iload_n dX0_tellings_4 rfl rfl ?_
    refine gr_aload_n dX0_tellings_5 rfl rfl ?_
    refine gr_getI q_7_6 fl_X0_30 dX0_tellings_6 ?_
    refine gr_icmp_ge (tgt := 30) dX0_tellings_9 (by decide) h (fun _ h => ?_) (fun _ h => ?_)
    · refine gr_iload_n dX0_tellings_12 rfl rfl ?_
      refine gr_aload_n dX0_tellings_13 rfl rfl ?_
      refine gr_getR q_7_3 fl_X0_21 dX0_tellings_14 ?_
      refine gr_iload_n dX0_tellings_17 rfl rfl ?_
      refine gq_iaload s_30 dX0_tellings_18 h (fun x1 h => ?_)
      obtain ⟨x2, hx2, h⟩ := gn_bd h
      refine gc_SI (c_J6_bitCount_0f7a4 hx2) my_J6_bitCount_0f7a4 ms_J6_bitCount_0f7a4 ml_X0_91 rfl rfl ⟨Nat.le_of_ble_eq_true rfl, Nat.le_of_ble_eq_true rfl⟩ (Nat.le_of_ble_eq_true rfl) dX0_tellings_19 (fun fx2 => ?_)
      refine gr_iadd dX0_tellings_22 ?_
      refine gr_istore_n (lv' := [some (.ref 7), some (.int (v1 + x2)), some (.int v2)]) dX0_tellings_23 rfl (by decide) rfl ?_
      refine gr_iinc (lv' := [some (.ref 7), some (.int (v1 + x2)), some (.int (v2 + (1 : Int32)))]) dX0_tellings_24 rfl gk_i_1 (by decide) rfl ?_
      refine gr_goto (tgt := 4) dX0_tellings_27 (by decide) ?_
      exact ih _ _ h
    · refine gn_wkn [false, true, false] rfl ?_
      exact hk _ h
def f_X0_tellings (n : Nat) (m : gn_M) : Option (Int32) := L_X0_tellings_4 n m (fun (e3 : Int32) => some e3) n (0 : Int32) (0 : Int32)
set_option maxRecDepth 100000 in
set_option maxHeartbeats 4000000 in
theorem c_X0_tellings {n : Nat} {m : gn_M} {v : Int32} (h : f_X0_tellings n m = some v) : gn_Cl yX0_tellings cX0_tellings 3 (some .int) 1 20 [.ref 7] m (some (.int v)) m := by
  rw [f_X0_tellings] at h
  refine gn_met (lv := [some (.ref 7), none, none]) pl_X0 rfl rfl (Nat.le_of_ble_eq_true rfl) ?_
  refine gr_iconst dX0_tellings_0 gk_i_0 ?_
  refine gr_istore_n (lv' := [some (.ref 7), some (.int (0 : Int32)), none]) dX0_tellings_1 rfl (by decide) rfl ?_
  refine gr_iconst dX0_tellings_2 gk_i_0 ?_
  refine gr_istore_n (lv' := [some (.ref 7), some (.int (0 : Int32)), some (.int (0 : Int32))]) dX0_tellings_3 rfl (by decide) rfl ?_
  refine l_X0_tellings_4 (fun e3 h => ?_) _ _ _ h
  refine gr_iload_n dX0_tellings_30 rfl rfl ?_
  exact gq_retI dX0_tellings_31 rfl h
def f_X0_meetAside (m : gn_M) (p0 : Int32) (p1 : Int32) (p2 : Nat) (p3 : Nat) : Option (gn_M) := gn_rd m 27 7 p0 (fun x1 => gn_rd m p2 7 p0 (fun x2 => (f_X3_tellingAs x1 p0 x2).bind (fun x3 => gn_rd m 27 7 p1 (fun x4 => gn_rd m p2 7 p1 (fun x5 => (f_X3_tellingAs x4 p1 x5).bind (fun x6 => gn_ac m p2 7 (0 : Int32) p3 7 (0 : Int32) (7 : Int32) (fun m7 => gn_rd m7 p3 7 p0 (fun x8 => gn_wr m7 p3 7 p0 (x8 ||| (x6 &&& (((1 : Int32) <<< (p0 &&& 31)) ^^^ (-1 : Int32)))) (fun m9 => gn_rd m9 p3 7 p1 (fun x10 => gn_wr m9 p3 7 p1 (x10 ||| (x3 &&& (((1 : Int32) <<< (p1 &&& 31)) ^^^ (-1 : Int32)))) (fun m11 => some m11)))))))))))
set_option maxRecDepth 100000 in
set_option maxHeartbeats 4000000 in
theorem c_X0_meetAside {m : gn_M} {p0 : Int32} {p1 : Int32} {p2 : Nat} {p3 : Nat} {v : gn_M} (hp2 : gn_S[p2]? = some (.inl (0, 7))) (hp3 : gn_S[p3]? = some (.inl (0, 7))) (h : f_X0_meetAside m p0 p1 p2 p3 = some v) : gn_Cl yX0_meetAside cX0_meetAside 7 none 1 26 [.ref 7, .int p0, .int p1, .ref p2, .ref p3] m none v := by
  rw [f_X0_meetAside] at h
  refine gn_met (lv := [some (.ref 7), some (.int p0), some (.int p1), some (.ref p2), some (.ref p3), none, none]) pl_X0 rfl rfl (Nat.le_of_ble_eq_true rfl) ?_
  refine gr_aload_n dX0_meetAside_0 rfl rfl ?_
  refine gr_getR q_7_0 fl_X0_9 dX0_meetAside_1 ?_
  refine gr_iload_n dX0_meetAside_4 rfl rfl ?_
  refine gq_iaload s_27 dX0_meetAside_5 h (fun x1 h => ?_)
  refine gr_iload_n dX0_meetAside_6 rfl rfl ?_
  refine gr_aload_n dX0_meetAside_7 rfl rfl ?_
  refine gr_iload_n dX0_meetAside_8 rfl rfl ?_
  refine gq_iaload hp2 dX0_meetAside_9 h (fun x2 h => ?_)
  obtain ⟨x3, hx3, h⟩ := gn_bd h
  refine gc_SNI (c_X3_tellingAs hx3) my_X3_tellingAs ms_X3_tellingAs ml_X0_87 rfl rfl ⟨Nat.le_of_ble_eq_true rfl, Nat.le_of_ble_eq_true rfl⟩ (Nat.le_of_ble_eq_true rfl) dX0_meetAside_10 (fun fx3 => ?_)
  refine gr_istore (lv' := [some (.ref 7), some (.int p0), some (.int p1), some (.ref p2), some (.ref p3), some (.int x3), none]) dX0_meetAside_13 (by decide) rfl ?_
  refine gr_aload_n dX0_meetAside_15 rfl rfl ?_
  refine gr_getR q_7_0 fl_X0_9 dX0_meetAside_16 ?_
  refine gr_iload_n dX0_meetAside_19 rfl rfl ?_
  refine gq_iaload s_27 dX0_meetAside_20 h (fun x4 h => ?_)
  refine gr_iload_n dX0_meetAside_21 rfl rfl ?_
  refine gr_aload_n dX0_meetAside_22 rfl rfl ?_
  refine gr_iload_n dX0_meetAside_23 rfl rfl ?_
  refine gq_iaload hp2 dX0_meetAside_24 h (fun x5 h => ?_)
  obtain ⟨x6, hx6, h⟩ := gn_bd h
  refine gc_SNI (c_X3_tellingAs hx6) my_X3_tellingAs ms_X3_tellingAs ml_X0_87 rfl rfl ⟨Nat.le_of_ble_eq_true rfl, Nat.le_of_ble_eq_true rfl⟩ (Nat.le_of_ble_eq_true rfl) dX0_meetAside_25 (fun fx6 => ?_)
  refine gr_istore (lv' := [some (.ref 7), some (.int p0), some (.int p1), some (.ref p2), some (.ref p3), some (.int x3), some (.int x6)]) dX0_meetAside_28 (by decide) rfl ?_
  refine gr_aload_n dX0_meetAside_30 rfl rfl ?_
  refine gr_iconst dX0_meetAside_31 gk_i_0 ?_
  refine gr_aload dX0_meetAside_32 rfl ?_
  refine gr_iconst dX0_meetAside_34 gk_i_0 ?_
  refine gr_bipush dX0_meetAside_35 gk_b_7 ?_
  refine gq_copy hp2 hp3 ml_X0_67 w_copy ⟨Nat.le_of_ble_eq_true rfl, Nat.le_of_ble_eq_true rfl⟩ dX0_meetAside_37 h (fun m7 h => ?_)
  refine gr_aload dX0_meetAside_40 rfl ?_
  refine gr_iload_n dX0_meetAside_42 rfl rfl ?_
  refine gr_dup2 dX0_meetAside_43 rfl rfl ?_
  refine gq_iaload hp3 dX0_meetAside_44 h (fun x8 h => ?_)
  refine gr_iload dX0_meetAside_45 rfl ?_
  refine gr_iconst dX0_meetAside_47 gk_i_1 ?_
  refine gr_iload_n dX0_meetAside_48 rfl rfl ?_
  refine gr_ishl dX0_meetAside_49 ?_
  refine gr_iconst dX0_meetAside_50 gk_i_m1 ?_
  refine gr_ixor dX0_meetAside_51 ?_
  refine gr_iand dX0_meetAside_52 ?_
  refine gr_ior dX0_meetAside_53 ?_
  refine gq_iastore hp3 dX0_meetAside_54 h (fun m9 h => ?_)
  refine gr_aload dX0_meetAside_55 rfl ?_
  refine gr_iload_n dX0_meetAside_57 rfl rfl ?_
  refine gr_dup2 dX0_meetAside_58 rfl rfl ?_
  refine gq_iaload hp3 dX0_meetAside_59 h (fun x10 h => ?_)
  refine gr_iload dX0_meetAside_60 rfl ?_
  refine gr_iconst dX0_meetAside_62 gk_i_1 ?_
  refine gr_iload_n dX0_meetAside_63 rfl rfl ?_
  refine gr_ishl dX0_meetAside_64 ?_
  refine gr_iconst dX0_meetAside_65 gk_i_m1 ?_
  refine gr_ixor dX0_meetAside_66 ?_
  refine gr_iand dX0_meetAside_67 ?_
  refine gr_ior dX0_meetAside_68 ?_
  refine gq_iastore hp3 dX0_meetAside_69 h (fun m11 h => ?_)
  exact gq_retVM dX0_meetAside_70 trivial h
def f_X0_add (m : gn_M) (p0 : Int32) (p1 : Int32) (p2 : Int32) : Option (gn_M) := (if (m.1 7 7) < (40 : Int32) then (f_X0_numbers m p1).bind (fun x1 => (if x1 = 0 then some m else (f_X0_numbers m p2).bind (fun x2 => (if x2 = 0 then some m else gn_wr m 32 40 (m.1 7 7) ((((100 : Int32) * p0) + ((10 : Int32) * p1)) + p2) (fun m3 => gn_pf m3 7 7 ((m3.1 7 7) + (1 : Int32)) (fun m4 => (if p0 = 1 then (f_X0_meetAside m4 p1 p2 30 30).bind (fun x5 => some x5) else (if p0 = 2 then (f_X0_tellingOf m4 p1).bind (fun x6 => gn_pf m4 7 10 ((m4.1 7 10) ||| x6) (fun m7 => some m7)) else (if p0 = 3 then gn_rd m4 30 7 p1 (fun x8 => gn_wr m4 30 7 p1 (x8 ||| ((m4.1 7 10) &&& (((1 : Int32) <<< (p1 &&& 31)) ^^^ (-1 : Int32)))) (fun m9 => some m9)) else (if p0 = 4 then gn_pf m4 7 8 ((m4.1 7 8) ||| ((1 : Int32) <<< (p1 &&& 31))) (fun m10 => gn_pf m10 7 9 p1 (fun m11 => some m11)) else some m4)))))))))) else some m)
set_option maxRecDepth 100000 in
set_option maxHeartbeats 4000000 in
theorem c_X0_add {m : gn_M} {p0 : Int32} {p1 : Int32} {p2 : Int32} {v : gn_M} (h : f_X0_add m p0 p1 p2 = some v) : gn_Cl yX0_add cX0_add 4 none 2 52 [.ref 7, .int p0, .int p1, .int p2] m none v := by
  rw [f_X0_add] at h
  refine gn_met (lv := [some (.ref 7), some (.int p0), some (.int p1), some (.int p2)]) pl_X0 rfl rfl (Nat.le_of_ble_eq_true rfl) ?_
  refine gr_aload_n dX0_add_0 rfl rfl ?_
  refine gr_getI q_7_7 fl_X0_34 dX0_add_1 ?_
  refine gr_bipush dX0_add_4 gk_b_40 ?_
  refine gr_icmp_ge (tgt := 25) dX0_add_6 (by decide) h (fun _ h => ?_) (fun _ h => ?_)
  · refine gr_aload_n dX0_add_9 rfl rfl ?_
    refine gr_iload_n dX0_add_10 rfl rfl ?_
    obtain ⟨x1, hx1, h⟩ := gn_bd h
    refine gc_VI (c_X0_numbers hx1) my_X0_numbers mv_X0_numbers ob_7 ml_X0_77 rfl rfl ⟨Nat.le_of_ble_eq_true rfl, Nat.le_of_ble_eq_true rfl⟩ (Nat.le_of_ble_eq_true rfl) dX0_add_11 (fun fx1 => ?_)
    refine gr_if_eq (tgt := 25) dX0_add_14 (by decide) h (fun _ h => ?_) (fun _ h => ?_)
    · exact gq_retVM dX0_add_25 trivial h
    · refine gr_aload_n dX0_add_17 rfl rfl ?_
      refine gr_iload_n dX0_add_18 rfl rfl ?_
      obtain ⟨x2, hx2, h⟩ := gn_bd h
      refine gc_VI (c_X0_numbers hx2) my_X0_numbers mv_X0_numbers ob_7 ml_X0_77 rfl rfl ⟨Nat.le_of_ble_eq_true rfl, Nat.le_of_ble_eq_true rfl⟩ (Nat.le_of_ble_eq_true rfl) dX0_add_19 (fun fx2 => ?_)
      refine gr_if_ne (tgt := 26) dX0_add_22 (by decide) h (fun _ h => ?_) (fun _ h => ?_)
      · exact gq_retVM dX0_add_25 trivial h
      · refine gr_aload_n dX0_add_26 rfl rfl ?_
        refine gr_getR q_7_5 fl_X0_27 dX0_add_27 ?_
        refine gr_aload_n dX0_add_30 rfl rfl ?_
        refine gr_getI q_7_7 fl_X0_34 dX0_add_31 ?_
        refine gr_bipush dX0_add_34 gk_b_100 ?_
        refine gr_iload_n dX0_add_36 rfl rfl ?_
        refine gr_imul dX0_add_37 ?_
        refine gr_bipush dX0_add_38 gk_b_10 ?_
        refine gr_iload_n dX0_add_40 rfl rfl ?_
        refine gr_imul dX0_add_41 ?_
        refine gr_iadd dX0_add_42 ?_
        refine gr_iload_n dX0_add_43 rfl rfl ?_
        refine gr_iadd dX0_add_44 ?_
        refine gq_iastore s_32 dX0_add_45 h (fun m3 h => ?_)
        refine gr_aload_n dX0_add_46 rfl rfl ?_
        refine gr_dup dX0_add_47 rfl ?_
        refine gr_getI q_7_7 fl_X0_34 dX0_add_48 ?_
        refine gr_iconst dX0_add_51 gk_i_1 ?_
        refine gr_iadd dX0_add_52 ?_
        refine gq_putI q_7_7 rfl rfl fl_X0_34 dX0_add_53 h (fun m4 h => ?_)
        refine gr_iload_n dX0_add_56 rfl rfl ?_
        refine gn_sw h (fun hs0 h => ?_) (fun hs0 h => ?_)
        · refine gr_tsIn (tgt := 88) dX0_add_57 hs0 (by decide) (by decide) rfl (by decide) ?_
          refine gr_aload_n dX0_add_88 rfl rfl ?_
          refine gr_iload_n dX0_add_89 rfl rfl ?_
          refine gr_iload_n dX0_add_90 rfl rfl ?_
          refine gr_aload_n dX0_add_91 rfl rfl ?_
          refine gr_getR q_7_3 fl_X0_21 dX0_add_92 ?_
          refine gr_aload_n dX0_add_95 rfl rfl ?_
          refine gr_getR q_7_3 fl_X0_21 dX0_add_96 ?_
          obtain ⟨x5, hx5, h⟩ := gn_bd h
          refine gc_V0 (c_X0_meetAside s_30 s_30 hx5) my_X0_meetAside mv_X0_meetAside ob_7 ml_X0_80 rfl rfl ⟨Nat.le_of_ble_eq_true rfl, Nat.le_of_ble_eq_true rfl⟩ (Nat.le_of_ble_eq_true rfl) dX0_add_99 (fun fx5 => ?_)
          refine gr_goto (tgt := 164) dX0_add_102 (by decide) ?_
          exact gq_retVM dX0_add_164 trivial h
        refine gn_sw h (fun hs1 h => ?_) (fun hs1 h => ?_)
        · refine gr_tsIn (tgt := 105) dX0_add_57 hs1 (by decide) (by decide) rfl (by decide) ?_
          refine gr_aload_n dX0_add_105 rfl rfl ?_
          refine gr_dup dX0_add_106 rfl ?_
          refine gr_getI q_7_10 fl_X0_43 dX0_add_107 ?_
          refine gr_aload_n dX0_add_110 rfl rfl ?_
          refine gr_iload_n dX0_add_111 rfl rfl ?_
          obtain ⟨x6, hx6, h⟩ := gn_bd h
          refine gc_VI (c_X0_tellingOf hx6) my_X0_tellingOf mv_X0_tellingOf ob_7 ml_X0_84 rfl rfl ⟨Nat.le_of_ble_eq_true rfl, Nat.le_of_ble_eq_true rfl⟩ (Nat.le_of_ble_eq_true rfl) dX0_add_112 (fun fx6 => ?_)
          refine gr_ior dX0_add_115 ?_
          refine gq_putI q_7_10 rfl rfl fl_X0_43 dX0_add_116 h (fun m7 h => ?_)
          refine gr_goto (tgt := 164) dX0_add_119 (by decide) ?_
          exact gq_retVM dX0_add_164 trivial h
        refine gn_sw h (fun hs2 h => ?_) (fun hs2 h => ?_)
        · refine gr_tsIn (tgt := 122) dX0_add_57 hs2 (by decide) (by decide) rfl (by decide) ?_
          refine gr_aload_n dX0_add_122 rfl rfl ?_
          refine gr_getR q_7_3 fl_X0_21 dX0_add_123 ?_
          refine gr_iload_n dX0_add_126 rfl rfl ?_
          refine gr_dup2 dX0_add_127 rfl rfl ?_
          refine gq_iaload s_30 dX0_add_128 h (fun x8 h => ?_)
          refine gr_aload_n dX0_add_129 rfl rfl ?_
          refine gr_getI q_7_10 fl_X0_43 dX0_add_130 ?_
          refine gr_iconst dX0_add_133 gk_i_1 ?_
          refine gr_iload_n dX0_add_134 rfl rfl ?_
          refine gr_ishl dX0_add_135 ?_
          refine gr_iconst dX0_add_136 gk_i_m1 ?_
          refine gr_ixor dX0_add_137 ?_
          refine gr_iand dX0_add_138 ?_
          refine gr_ior dX0_add_139 ?_
          refine gq_iastore s_30 dX0_add_140 h (fun m9 h => ?_)
          refine gr_goto (tgt := 164) dX0_add_141 (by decide) ?_
          exact gq_retVM dX0_add_164 trivial h
        refine gn_sw h (fun hs3 h => ?_) (fun hs3 h => ?_)
        · refine gr_tsIn (tgt := 144) dX0_add_57 hs3 (by decide) (by decide) rfl (by decide) ?_
          refine gr_aload_n dX0_add_144 rfl rfl ?_
          refine gr_dup dX0_add_145 rfl ?_
          refine gr_getI q_7_8 fl_X0_37 dX0_add_146 ?_
          refine gr_iconst dX0_add_149 gk_i_1 ?_
          refine gr_iload_n dX0_add_150 rfl rfl ?_
          refine gr_ishl dX0_add_151 ?_
          refine gr_ior dX0_add_152 ?_
          refine gq_putI q_7_8 rfl rfl fl_X0_37 dX0_add_153 h (fun m10 h => ?_)
          refine gr_aload_n dX0_add_156 rfl rfl ?_
          refine gr_iload_n dX0_add_157 rfl rfl ?_
          refine gq_putI q_7_9 rfl rfl fl_X0_40 dX0_add_158 h (fun m11 h => ?_)
          refine gr_goto (tgt := 164) dX0_add_161 (by decide) ?_
          exact gq_retVM dX0_add_164 trivial h
        refine gr_tsOut (tgt := 164) dX0_add_57 (by have := gn_out (x := p0) 4 1 (fun j hj => match j, hj with | 0, _ => hs0 | 1, _ => hs1 | 2, _ => hs2 | 3, _ => hs3 | j + 4, hj => absurd hj (by omega)); omega) (by decide) ?_
        exact gq_retVM dX0_add_164 trivial h
  · exact gq_retVM dX0_add_25 trivial h
def f_X3_meet (n : Nat) (m : gn_M) (p0 : Int32) (p1 : Int32) : Option (Int32 × gn_M) := (f_X0_numbers m p0).bind (fun x1 => (if x1 = 0 then some ((-1 : Int32), m) else (f_X0_numbers m p1).bind (fun x2 => (if x2 = 0 then some ((-1 : Int32), m) else (if p0 = p1 then some ((-1 : Int32), m) else (f_X0_canMeet m p0 p1).bind (fun x3 => (if x3 = 0 then some ((-4 : Int32), m) else (f_X0_spare m).bind (fun x4 => (if x4 < (1 : Int32) then some ((-2 : Int32), m) else (f_X0_tellings n m).bind (fun x5 => (f_X0_add m (1 : Int32) p0 p1).bind (fun x6 => (f_X0_tellings n x6).bind (fun x7 => some ((x7 - x5), x6)))))))))))))
set_option maxRecDepth 100000 in
set_option maxHeartbeats 4000000 in
theorem c_X3_meet {n : Nat} {m : gn_M} {p0 : Int32} {p1 : Int32} {v : Int32 × gn_M} (h : f_X3_meet n m p0 p1 = some v) : gn_Cl yX3_meet cX3_meet 4 (some .int) 3 75 [.ref 0, .int p0, .int p1] m (some (.int v.1)) v.2 := by
  rw [f_X3_meet] at h
  refine gn_met (lv := [some (.ref 0), some (.int p0), some (.int p1), none]) pl_X3 rfl rfl (Nat.le_of_ble_eq_true rfl) ?_
  refine gr_aload_n dX3_meet_0 rfl rfl ?_
  refine gr_getR q_0_2 fl_X3_24 dX3_meet_1 ?_
  refine gr_iload_n dX3_meet_4 rfl rfl ?_
  obtain ⟨x1, hx1, h⟩ := gn_bd h
  refine gc_VNI (c_X0_numbers hx1) my_X0_numbers mv_X0_numbers ob_7 ml_X3_129 rfl rfl ⟨Nat.le_of_ble_eq_true rfl, Nat.le_of_ble_eq_true rfl⟩ (Nat.le_of_ble_eq_true rfl) dX3_meet_5 (fun fx1 => ?_)
  refine gr_if_eq (tgt := 27) dX3_meet_8 (by decide) h (fun _ h => ?_) (fun _ h => ?_)
  · refine gr_iconst dX3_meet_27 gk_i_m1 ?_
    exact gq_retIM dX3_meet_28 rfl h
  · refine gr_aload_n dX3_meet_11 rfl rfl ?_
    refine gr_getR q_0_2 fl_X3_24 dX3_meet_12 ?_
    refine gr_iload_n dX3_meet_15 rfl rfl ?_
    obtain ⟨x2, hx2, h⟩ := gn_bd h
    refine gc_VNI (c_X0_numbers hx2) my_X0_numbers mv_X0_numbers ob_7 ml_X3_129 rfl rfl ⟨Nat.le_of_ble_eq_true rfl, Nat.le_of_ble_eq_true rfl⟩ (Nat.le_of_ble_eq_true rfl) dX3_meet_16 (fun fx2 => ?_)
    refine gr_if_eq (tgt := 27) dX3_meet_19 (by decide) h (fun _ h => ?_) (fun _ h => ?_)
    · refine gr_iconst dX3_meet_27 gk_i_m1 ?_
      exact gq_retIM dX3_meet_28 rfl h
    · refine gr_iload_n dX3_meet_22 rfl rfl ?_
      refine gr_iload_n dX3_meet_23 rfl rfl ?_
      refine gr_icmp_ne (tgt := 29) dX3_meet_24 (by decide) h (fun _ h => ?_) (fun _ h => ?_)
      · refine gr_iconst dX3_meet_27 gk_i_m1 ?_
        exact gq_retIM dX3_meet_28 rfl h
      · refine gr_aload_n dX3_meet_29 rfl rfl ?_
        refine gr_getR q_0_2 fl_X3_24 dX3_meet_30 ?_
        refine gr_iload_n dX3_meet_33 rfl rfl ?_
        refine gr_iload_n dX3_meet_34 rfl rfl ?_
        obtain ⟨x3, hx3, h⟩ := gn_bd h
        refine gc_VNI (c_X0_canMeet hx3) my_X0_canMeet mv_X0_canMeet ob_7 ml_X3_162 rfl rfl ⟨Nat.le_of_ble_eq_true rfl, Nat.le_of_ble_eq_true rfl⟩ (Nat.le_of_ble_eq_true rfl) dX3_meet_35 (fun fx3 => ?_)
        refine gr_if_ne (tgt := 44) dX3_meet_38 (by decide) h (fun _ h => ?_) (fun _ h => ?_)
        · refine gr_bipush dX3_meet_41 gk_b_m4 ?_
          exact gq_retIM dX3_meet_43 rfl h
        · refine gr_aload_n dX3_meet_44 rfl rfl ?_
          refine gr_getR q_0_2 fl_X3_24 dX3_meet_45 ?_
          obtain ⟨x4, hx4, h⟩ := gn_bd h
          refine gc_VNI (c_X0_spare hx4) my_X0_spare mv_X0_spare ob_7 ml_X3_166 rfl rfl ⟨Nat.le_of_ble_eq_true rfl, Nat.le_of_ble_eq_true rfl⟩ (Nat.le_of_ble_eq_true rfl) dX3_meet_48 (fun fx4 => ?_)
          refine gr_iconst dX3_meet_51 gk_i_1 ?_
          refine gr_icmp_ge (tgt := 58) dX3_meet_52 (by decide) h (fun _ h => ?_) (fun _ h => ?_)
          · refine gr_bipush dX3_meet_55 gk_b_m2 ?_
            exact gq_retIM dX3_meet_57 rfl h
          · refine gr_aload_n dX3_meet_58 rfl rfl ?_
            refine gr_getR q_0_2 fl_X3_24 dX3_meet_59 ?_
            obtain ⟨x5, hx5, h⟩ := gn_bd h
            refine gc_VNI (c_X0_tellings hx5) my_X0_tellings mv_X0_tellings ob_7 ml_X3_169 rfl rfl ⟨Nat.le_of_ble_eq_true rfl, Nat.le_of_ble_eq_true rfl⟩ (Nat.le_of_ble_eq_true rfl) dX3_meet_62 (fun fx5 => ?_)
            refine gr_istore_n (lv' := [some (.ref 0), some (.int p0), some (.int p1), some (.int x5)]) dX3_meet_65 rfl (by decide) rfl ?_
            refine gr_aload_n dX3_meet_66 rfl rfl ?_
            refine gr_getR q_0_2 fl_X3_24 dX3_meet_67 ?_
            refine gr_iconst dX3_meet_70 gk_i_1 ?_
            refine gr_iload_n dX3_meet_71 rfl rfl ?_
            refine gr_iload_n dX3_meet_72 rfl rfl ?_
            obtain ⟨x6, hx6, h⟩ := gn_bd h
            refine gc_VN0 (c_X0_add hx6) my_X0_add mv_X0_add ob_7 ml_X3_172 rfl rfl ⟨Nat.le_of_ble_eq_true rfl, Nat.le_of_ble_eq_true rfl⟩ (Nat.le_of_ble_eq_true rfl) dX3_meet_73 (fun fx6 => ?_)
            refine gr_aload_n dX3_meet_76 rfl rfl ?_
            refine gr_getR q_0_2 fl_X3_24 dX3_meet_77 ?_
            obtain ⟨x7, hx7, h⟩ := gn_bd h
            refine gc_VNI (c_X0_tellings hx7) my_X0_tellings mv_X0_tellings ob_7 ml_X3_169 rfl rfl ⟨Nat.le_of_ble_eq_true rfl, Nat.le_of_ble_eq_true rfl⟩ (Nat.le_of_ble_eq_true rfl) dX3_meet_80 (fun fx7 => ?_)
            refine gr_iload_n dX3_meet_83 rfl rfl ?_
            refine gr_isub dX3_meet_84 ?_
            exact gq_retIM dX3_meet_85 rfl h
def f_X3_refusalAtStone (m : gn_M) (p0 : Int32) : Option (Int32) := (f_X0_numbers m p0).bind (fun x1 => (if x1 = 0 then some (-1 : Int32) else (f_X0_waits m p0).bind (fun x2 => (if x2 = 0 then some (-4 : Int32) else (f_X0_spare m).bind (fun x3 => (if x3 < (1 : Int32) then some (-2 : Int32) else some (0 : Int32)))))))
set_option maxRecDepth 100000 in
set_option maxHeartbeats 4000000 in
theorem c_X3_refusalAtStone {m : gn_M} {p0 : Int32} {v : Int32} (h : f_X3_refusalAtStone m p0 = some v) : gn_Cl yX3_refusalAtStone cX3_refusalAtStone 2 (some .int) 2 42 [.ref 0, .int p0] m (some (.int v)) m := by
  rw [f_X3_refusalAtStone] at h
  refine gn_met (lv := [some (.ref 0), some (.int p0)]) pl_X3 rfl rfl (Nat.le_of_ble_eq_true rfl) ?_
  refine gr_aload_n dX3_refusalAtStone_0 rfl rfl ?_
  refine gr_getR q_0_2 fl_X3_24 dX3_refusalAtStone_1 ?_
  refine gr_iload_n dX3_refusalAtStone_4 rfl rfl ?_
  obtain ⟨x1, hx1, h⟩ := gn_bd h
  refine gc_VNI (c_X0_numbers hx1) my_X0_numbers mv_X0_numbers ob_7 ml_X3_129 rfl rfl ⟨Nat.le_of_ble_eq_true rfl, Nat.le_of_ble_eq_true rfl⟩ (Nat.le_of_ble_eq_true rfl) dX3_refusalAtStone_5 (fun fx1 => ?_)
  refine gr_if_ne (tgt := 13) dX3_refusalAtStone_8 (by decide) h (fun _ h => ?_) (fun _ h => ?_)
  · refine gr_iconst dX3_refusalAtStone_11 gk_i_m1 ?_
    exact gq_retI dX3_refusalAtStone_12 rfl h
  · refine gr_aload_n dX3_refusalAtStone_13 rfl rfl ?_
    refine gr_getR q_0_2 fl_X3_24 dX3_refusalAtStone_14 ?_
    refine gr_iload_n dX3_refusalAtStone_17 rfl rfl ?_
    obtain ⟨x2, hx2, h⟩ := gn_bd h
    refine gc_VNI (c_X0_waits hx2) my_X0_waits mv_X0_waits ob_7 ml_X3_244 rfl rfl ⟨Nat.le_of_ble_eq_true rfl, Nat.le_of_ble_eq_true rfl⟩ (Nat.le_of_ble_eq_true rfl) dX3_refusalAtStone_18 (fun fx2 => ?_)
    refine gr_if_ne (tgt := 27) dX3_refusalAtStone_21 (by decide) h (fun _ h => ?_) (fun _ h => ?_)
    · refine gr_bipush dX3_refusalAtStone_24 gk_b_m4 ?_
      exact gq_retI dX3_refusalAtStone_26 rfl h
    · refine gr_aload_n dX3_refusalAtStone_27 rfl rfl ?_
      refine gr_getR q_0_2 fl_X3_24 dX3_refusalAtStone_28 ?_
      obtain ⟨x3, hx3, h⟩ := gn_bd h
      refine gc_VNI (c_X0_spare hx3) my_X0_spare mv_X0_spare ob_7 ml_X3_166 rfl rfl ⟨Nat.le_of_ble_eq_true rfl, Nat.le_of_ble_eq_true rfl⟩ (Nat.le_of_ble_eq_true rfl) dX3_refusalAtStone_31 (fun fx3 => ?_)
      refine gr_iconst dX3_refusalAtStone_34 gk_i_1 ?_
      refine gr_icmp_ge (tgt := 43) dX3_refusalAtStone_35 (by decide) h (fun _ h => ?_) (fun _ h => ?_)
      · refine gr_bipush dX3_refusalAtStone_38 gk_b_m2 ?_
        refine gr_goto (tgt := 44) dX3_refusalAtStone_40 (by decide) ?_
        exact gq_retI dX3_refusalAtStone_44 rfl h
      · refine gr_iconst dX3_refusalAtStone_43 gk_i_0 ?_
        exact gq_retI dX3_refusalAtStone_44 rfl h
def f_X3_card (m : gn_M) (p0 : Int32) : Option (Int32 × gn_M) := (f_X3_refusalAtStone m p0).bind (fun x1 => (if x1 = 0 then (f_X0_add m (2 : Int32) p0 (0 : Int32)).bind (fun x2 => some ((x2.1 7 10), x2)) else some (x1, m)))
set_option maxRecDepth 100000 in
set_option maxHeartbeats 4000000 in
theorem c_X3_card {m : gn_M} {p0 : Int32} {v : Int32 × gn_M} (h : f_X3_card m p0 = some v) : gn_Cl yX3_card cX3_card 3 (some .int) 3 75 [.ref 0, .int p0] m (some (.int v.1)) v.2 := by
  rw [f_X3_card] at h
  refine gn_met (lv := [some (.ref 0), some (.int p0), none]) pl_X3 rfl rfl (Nat.le_of_ble_eq_true rfl) ?_
  refine gr_aload_n dX3_card_0 rfl rfl ?_
  refine gr_iload_n dX3_card_1 rfl rfl ?_
  obtain ⟨x1, hx1, h⟩ := gn_bd h
  refine gc_VI (c_X3_refusalAtStone hx1) my_X3_refusalAtStone mv_X3_refusalAtStone ob_0 ml_X3_176 rfl rfl ⟨Nat.le_of_ble_eq_true rfl, Nat.le_of_ble_eq_true rfl⟩ (Nat.le_of_ble_eq_true rfl) dX3_card_2 (fun fx1 => ?_)
  refine gr_istore_n (lv' := [some (.ref 0), some (.int p0), some (.int x1)]) dX3_card_5 rfl (by decide) rfl ?_
  refine gr_iload_n dX3_card_6 rfl rfl ?_
  refine gr_if_eq (tgt := 12) dX3_card_7 (by decide) h (fun _ h => ?_) (fun _ h => ?_)
  · refine gr_aload_n dX3_card_12 rfl rfl ?_
    refine gr_getR q_0_2 fl_X3_24 dX3_card_13 ?_
    refine gr_iconst dX3_card_16 gk_i_2 ?_
    refine gr_iload_n dX3_card_17 rfl rfl ?_
    refine gr_iconst dX3_card_18 gk_i_0 ?_
    obtain ⟨x2, hx2, h⟩ := gn_bd h
    refine gc_VN0 (c_X0_add hx2) my_X0_add mv_X0_add ob_7 ml_X3_172 rfl rfl ⟨Nat.le_of_ble_eq_true rfl, Nat.le_of_ble_eq_true rfl⟩ (Nat.le_of_ble_eq_true rfl) dX3_card_19 (fun fx2 => ?_)
    refine gr_aload_n dX3_card_22 rfl rfl ?_
    refine gr_getR q_0_2 fl_X3_24 dX3_card_23 ?_
    refine gr_getIN q_7_10 fl_X3_179 dX3_card_26 ?_
    exact gq_retIM dX3_card_29 rfl h
  · refine gr_iload_n dX3_card_10 rfl rfl ?_
    exact gq_retIM dX3_card_11 rfl h
def f_X3_reads (n : Nat) (m : gn_M) (p0 : Int32) : Option (Int32 × gn_M) := (f_X3_refusalAtStone m p0).bind (fun x1 => (if x1 = 0 then (f_X0_tellings n m).bind (fun x2 => (f_X0_add m (3 : Int32) p0 (0 : Int32)).bind (fun x3 => (f_X0_tellings n x3).bind (fun x4 => some ((x4 - x2), x3)))) else some (x1, m)))
set_option maxRecDepth 100000 in
set_option maxHeartbeats 4000000 in
theorem c_X3_reads {n : Nat} {m : gn_M} {p0 : Int32} {v : Int32 × gn_M} (h : f_X3_reads n m p0 = some v) : gn_Cl yX3_reads cX3_reads 4 (some .int) 3 75 [.ref 0, .int p0] m (some (.int v.1)) v.2 := by
  rw [f_X3_reads] at h
  refine gn_met (lv := [some (.ref 0), some (.int p0), none, none]) pl_X3 rfl rfl (Nat.le_of_ble_eq_true rfl) ?_
  refine gr_aload_n dX3_reads_0 rfl rfl ?_
  refine gr_iload_n dX3_reads_1 rfl rfl ?_
  obtain ⟨x1, hx1, h⟩ := gn_bd h
  refine gc_VI (c_X3_refusalAtStone hx1) my_X3_refusalAtStone mv_X3_refusalAtStone ob_0 ml_X3_176 rfl rfl ⟨Nat.le_of_ble_eq_true rfl, Nat.le_of_ble_eq_true rfl⟩ (Nat.le_of_ble_eq_true rfl) dX3_reads_2 (fun fx1 => ?_)
  refine gr_istore_n (lv' := [some (.ref 0), some (.int p0), some (.int x1), none]) dX3_reads_5 rfl (by decide) rfl ?_
  refine gr_iload_n dX3_reads_6 rfl rfl ?_
  refine gr_if_eq (tgt := 12) dX3_reads_7 (by decide) h (fun _ h => ?_) (fun _ h => ?_)
  · refine gr_aload_n dX3_reads_12 rfl rfl ?_
    refine gr_getR q_0_2 fl_X3_24 dX3_reads_13 ?_
    obtain ⟨x2, hx2, h⟩ := gn_bd h
    refine gc_VNI (c_X0_tellings hx2) my_X0_tellings mv_X0_tellings ob_7 ml_X3_169 rfl rfl ⟨Nat.le_of_ble_eq_true rfl, Nat.le_of_ble_eq_true rfl⟩ (Nat.le_of_ble_eq_true rfl) dX3_reads_16 (fun fx2 => ?_)
    refine gr_istore_n (lv' := [some (.ref 0), some (.int p0), some (.int x1), some (.int x2)]) dX3_reads_19 rfl (by decide) rfl ?_
    refine gr_aload_n dX3_reads_20 rfl rfl ?_
    refine gr_getR q_0_2 fl_X3_24 dX3_reads_21 ?_
    refine gr_iconst dX3_reads_24 gk_i_3 ?_
    refine gr_iload_n dX3_reads_25 rfl rfl ?_
    refine gr_iconst dX3_reads_26 gk_i_0 ?_
    obtain ⟨x3, hx3, h⟩ := gn_bd h
    refine gc_VN0 (c_X0_add hx3) my_X0_add mv_X0_add ob_7 ml_X3_172 rfl rfl ⟨Nat.le_of_ble_eq_true rfl, Nat.le_of_ble_eq_true rfl⟩ (Nat.le_of_ble_eq_true rfl) dX3_reads_27 (fun fx3 => ?_)
    refine gr_aload_n dX3_reads_30 rfl rfl ?_
    refine gr_getR q_0_2 fl_X3_24 dX3_reads_31 ?_
    obtain ⟨x4, hx4, h⟩ := gn_bd h
    refine gc_VNI (c_X0_tellings hx4) my_X0_tellings mv_X0_tellings ob_7 ml_X3_169 rfl rfl ⟨Nat.le_of_ble_eq_true rfl, Nat.le_of_ble_eq_true rfl⟩ (Nat.le_of_ble_eq_true rfl) dX3_reads_34 (fun fx4 => ?_)
    refine gr_iload_n dX3_reads_37 rfl rfl ?_
    refine gr_isub dX3_reads_38 ?_
    exact gq_retIM dX3_reads_39 rfl h
  · refine gr_iload_n dX3_reads_10 rfl rfl ?_
    exact gq_retIM dX3_reads_11 rfl h
def f_X3_go (m : gn_M) (p0 : Int32) : Option (Int32 × gn_M) := (f_X0_numbers m p0).bind (fun x1 => (if x1 = 0 then some ((-1 : Int32), m) else (f_X0_opensTo m p0).bind (fun x2 => (if x2 = 0 then some ((-4 : Int32), m) else (f_X0_spare m).bind (fun x3 => (if x3 < (1 : Int32) then some ((-2 : Int32), m) else (f_X0_add m (4 : Int32) p0 (0 : Int32)).bind (fun x4 => (f_J6_bitCount_0f7a4 (x4.1 7 8)).bind (fun x5 => some (x5, x4)))))))))
set_option maxRecDepth 100000 in
set_option maxHeartbeats 4000000 in
theorem c_X3_go {m : gn_M} {p0 : Int32} {v : Int32 × gn_M} (h : f_X3_go m p0 = some v) : gn_Cl yX3_go cX3_go 2 (some .int) 3 75 [.ref 0, .int p0] m (some (.int v.1)) v.2 := by
  rw [f_X3_go] at h
  refine gn_met (lv := [some (.ref 0), some (.int p0)]) pl_X3 rfl rfl (Nat.le_of_ble_eq_true rfl) ?_
  refine gr_aload_n dX3_go_0 rfl rfl ?_
  refine gr_getR q_0_2 fl_X3_24 dX3_go_1 ?_
  refine gr_iload_n dX3_go_4 rfl rfl ?_
  obtain ⟨x1, hx1, h⟩ := gn_bd h
  refine gc_VNI (c_X0_numbers hx1) my_X0_numbers mv_X0_numbers ob_7 ml_X3_129 rfl rfl ⟨Nat.le_of_ble_eq_true rfl, Nat.le_of_ble_eq_true rfl⟩ (Nat.le_of_ble_eq_true rfl) dX3_go_5 (fun fx1 => ?_)
  refine gr_if_ne (tgt := 13) dX3_go_8 (by decide) h (fun _ h => ?_) (fun _ h => ?_)
  · refine gr_iconst dX3_go_11 gk_i_m1 ?_
    exact gq_retIM dX3_go_12 rfl h
  · refine gr_aload_n dX3_go_13 rfl rfl ?_
    refine gr_getR q_0_2 fl_X3_24 dX3_go_14 ?_
    refine gr_iload_n dX3_go_17 rfl rfl ?_
    obtain ⟨x2, hx2, h⟩ := gn_bd h
    refine gc_VNI (c_X0_opensTo hx2) my_X0_opensTo mv_X0_opensTo ob_7 ml_X3_182 rfl rfl ⟨Nat.le_of_ble_eq_true rfl, Nat.le_of_ble_eq_true rfl⟩ (Nat.le_of_ble_eq_true rfl) dX3_go_18 (fun fx2 => ?_)
    refine gr_if_ne (tgt := 27) dX3_go_21 (by decide) h (fun _ h => ?_) (fun _ h => ?_)
    · refine gr_bipush dX3_go_24 gk_b_m4 ?_
      exact gq_retIM dX3_go_26 rfl h
    · refine gr_aload_n dX3_go_27 rfl rfl ?_
      refine gr_getR q_0_2 fl_X3_24 dX3_go_28 ?_
      obtain ⟨x3, hx3, h⟩ := gn_bd h
      refine gc_VNI (c_X0_spare hx3) my_X0_spare mv_X0_spare ob_7 ml_X3_166 rfl rfl ⟨Nat.le_of_ble_eq_true rfl, Nat.le_of_ble_eq_true rfl⟩ (Nat.le_of_ble_eq_true rfl) dX3_go_31 (fun fx3 => ?_)
      refine gr_iconst dX3_go_34 gk_i_1 ?_
      refine gr_icmp_ge (tgt := 41) dX3_go_35 (by decide) h (fun _ h => ?_) (fun _ h => ?_)
      · refine gr_bipush dX3_go_38 gk_b_m2 ?_
        exact gq_retIM dX3_go_40 rfl h
      · refine gr_aload_n dX3_go_41 rfl rfl ?_
        refine gr_getR q_0_2 fl_X3_24 dX3_go_42 ?_
        refine gr_iconst dX3_go_45 gk_i_4 ?_
        refine gr_iload_n dX3_go_46 rfl rfl ?_
        refine gr_iconst dX3_go_47 gk_i_0 ?_
        obtain ⟨x4, hx4, h⟩ := gn_bd h
        refine gc_VN0 (c_X0_add hx4) my_X0_add mv_X0_add ob_7 ml_X3_172 rfl rfl ⟨Nat.le_of_ble_eq_true rfl, Nat.le_of_ble_eq_true rfl⟩ (Nat.le_of_ble_eq_true rfl) dX3_go_48 (fun fx4 => ?_)
        refine gr_aload_n dX3_go_51 rfl rfl ?_
        refine gr_getR q_0_2 fl_X3_24 dX3_go_52 ?_
        refine gr_getIN q_7_8 fl_X3_185 dX3_go_55 ?_
        obtain ⟨x5, hx5, h⟩ := gn_bd h
        refine gc_SI (c_J6_bitCount_0f7a4 hx5) my_J6_bitCount_0f7a4 ms_J6_bitCount_0f7a4 ml_X3_140 rfl rfl ⟨Nat.le_of_ble_eq_true rfl, Nat.le_of_ble_eq_true rfl⟩ (Nat.le_of_ble_eq_true rfl) dX3_go_58 (fun fx5 => ?_)
        exact gq_retIM dX3_go_61 rfl h
def L_X0_doAgain_11 (n : Nat) (a1 : Nat) (a2 : Int32) (k : gn_M → Option (gn_M)) : Nat → Int32 → gn_M → Option (gn_M)
  | 0, _, _ => none
  | f + 1, v3, m => (if v3 < a2 then (if v3 < (40 : Int32) then gn_rd m a1 40 v3 (fun x3 => (f_X0_add m (x3 / (100 : Int32)) ((x3 / (10 : Int32)) - (x3 / (10 : Int32)) / (10 : Int32) * (10 : Int32)) (x3 - x3 / (10 : Int32) * (10 : Int32))).bind (fun x4 => L_X0_doAgain_11 n a1 a2 k f (v3 + (1 : Int32)) x4)) else k m) else k m)
set_option maxRecDepth 100000 in
set_option maxHeartbeats 4000000 in
theorem l_X0_doAgain_11 {n : Nat} {a1 : Nat} {a2 : Int32} {k : gn_M → Option (gn_M)} {v : gn_M} (ha1 : gn_S[a1]? = some (.inl (0, 40))) (hk : ∀ (m1 : gn_M), k m1 = some v → gn_Go RX0 cX0_doAgain 5 3 75 none none 55 [none, none, none, none, none] [] m1 none v) : ∀ (f : Nat) (v3 : Int32) (m : gn_M), L_X0_doAgain_11 n a1 a2 k f v3 m = some v → gn_Go RX0 cX0_doAgain 5 3 75 none none 11 [some (.ref 7), some (.ref a1), some (.int a2), some (.int v3), none] [] m none v := by
  intro f
  induction f with
  | zero =>
    intro v3 m h
    cases h
  | succ f ih =>
    intro v3 m h
    rw [L_X0_doAgain_11] at h
    refine gr_iload_n dX0_doAgain_11 rfl rfl ?_
    refine gr_iload_n dX0_doAgain_12 rfl rfl ?_
    refine gr_icmp_ge (tgt := 55) dX0_doAgain_13 (by decide) h (fun _ h => ?_) (fun _ h => ?_)
    · refine gr_iload_n dX0_doAgain_16 rfl rfl ?_
      refine gr_aload_n dX0_doAgain_17 rfl rfl ?_
      refine gr_alen (v := (40 : Int32)) ha1 (by decide) (by decide) dX0_doAgain_18 ?_
      refine gr_icmp_ge (tgt := 55) dX0_doAgain_19 (by decide) h (fun _ h => ?_) (fun _ h => ?_)
      · refine gr_aload_n dX0_doAgain_22 rfl rfl ?_
        refine gr_iload_n dX0_doAgain_23 rfl rfl ?_
        refine gq_iaload ha1 dX0_doAgain_24 h (fun x3 h => ?_)
        refine gr_istore (lv' := [some (.ref 7), some (.ref a1), some (.int a2), some (.int v3), some (.int x3)]) dX0_doAgain_25 (by decide) rfl ?_
        refine gr_aload_n dX0_doAgain_27 rfl rfl ?_
        refine gr_iload dX0_doAgain_28 rfl ?_
        refine gr_bipush dX0_doAgain_30 gk_b_100 ?_
        refine gr_idiv dX0_doAgain_32 (by decide) ?_
        refine gr_iload dX0_doAgain_33 rfl ?_
        refine gr_bipush dX0_doAgain_35 gk_b_10 ?_
        refine gr_idiv dX0_doAgain_37 (by decide) ?_
        refine gr_bipush dX0_doAgain_38 gk_b_10 ?_
        refine gr_irem dX0_doAgain_40 (by decide) ?_
        refine gr_iload dX0_doAgain_41 rfl ?_
        refine gr_bipush dX0_doAgain_43 gk_b_10 ?_
        refine gr_irem dX0_doAgain_45 (by decide) ?_
        obtain ⟨x4, hx4, h⟩ := gn_bd h
        refine gc_V0 (c_X0_add hx4) my_X0_add mv_X0_add ob_7 ml_X0_73 rfl rfl ⟨Nat.le_of_ble_eq_true rfl, Nat.le_of_ble_eq_true rfl⟩ (Nat.le_of_ble_eq_true rfl) dX0_doAgain_46 (fun fx4 => ?_)
        refine gr_iinc (lv' := [some (.ref 7), some (.ref a1), some (.int a2), some (.int (v3 + (1 : Int32))), some (.int x3)]) dX0_doAgain_49 rfl gk_i_1 (by decide) rfl ?_
        refine gr_goto (tgt := 11) dX0_doAgain_52 (by decide) ?_
        refine gn_wkn [true, true, true, true, false] rfl ?_
        exact ih _ _ h
      · refine gn_wkn [false, false, false, false, false] rfl ?_
        exact hk _ h
    · refine gn_wkn [false, false, false, false, false] rfl ?_
      exact hk _ h
def f_X0_doAgain (n : Nat) (m : gn_M) (p0 : Nat) (p1 : Int32) : Option (gn_M) := (f_X0_startAnew m).bind (fun x1 => gn_pf x1 7 7 (0 : Int32) (fun m2 => L_X0_doAgain_11 n p0 p1 (fun (m5 : gn_M) => some m5) n (0 : Int32) m2))
set_option maxRecDepth 100000 in
set_option maxHeartbeats 4000000 in
theorem c_X0_doAgain {n : Nat} {m : gn_M} {p0 : Nat} {p1 : Int32} {v : gn_M} (hp0 : gn_S[p0]? = some (.inl (0, 40))) (h : f_X0_doAgain n m p0 p1 = some v) : gn_Cl yX0_doAgain cX0_doAgain 5 none 3 75 [.ref 7, .ref p0, .int p1] m none v := by
  rw [f_X0_doAgain] at h
  refine gn_met (lv := [some (.ref 7), some (.ref p0), some (.int p1), none, none]) pl_X0 rfl rfl (Nat.le_of_ble_eq_true rfl) ?_
  refine gr_aload_n dX0_doAgain_0 rfl rfl ?_
  obtain ⟨x1, hx1, h⟩ := gn_bd h
  refine gc_V0 (c_X0_startAnew hx1) my_X0_startAnew mv_X0_startAnew ob_7 ml_X0_64 rfl rfl ⟨Nat.le_of_ble_eq_true rfl, Nat.le_of_ble_eq_true rfl⟩ (Nat.le_of_ble_eq_true rfl) dX0_doAgain_1 (fun fx1 => ?_)
  refine gr_aload_n dX0_doAgain_4 rfl rfl ?_
  refine gr_iconst dX0_doAgain_5 gk_i_0 ?_
  refine gq_putI q_7_7 rfl rfl fl_X0_34 dX0_doAgain_6 h (fun m2 h => ?_)
  refine gr_iconst dX0_doAgain_9 gk_i_0 ?_
  refine gr_istore_n (lv' := [some (.ref 7), some (.ref p0), some (.int p1), some (.int (0 : Int32)), none]) dX0_doAgain_10 rfl (by decide) rfl ?_
  refine l_X0_doAgain_11 hp0 (fun m5 h => ?_) _ _ _ h
  exact gq_retVM dX0_doAgain_55 trivial h
def f_X3_undo (n : Nat) (m : gn_M) (p0 : Int32) : Option (Int32 × gn_M) := (if p0 < 0 then some ((-1 : Int32), m) else (if (m.1 7 7) < p0 then some ((-1 : Int32), m) else (f_X0_doAgain n m 32 p0).bind (fun x1 => some (((m.1 7 7) - p0), x1))))
set_option maxRecDepth 100000 in
set_option maxHeartbeats 4000000 in
theorem c_X3_undo {n : Nat} {m : gn_M} {p0 : Int32} {v : Int32 × gn_M} (h : f_X3_undo n m p0 = some v) : gn_Cl yX3_undo cX3_undo 3 (some .int) 4 99 [.ref 0, .int p0] m (some (.int v.1)) v.2 := by
  rw [f_X3_undo] at h
  refine gn_met (lv := [some (.ref 0), some (.int p0), none]) pl_X3 rfl rfl (Nat.le_of_ble_eq_true rfl) ?_
  refine gr_iload_n dX3_undo_0 rfl rfl ?_
  refine gr_if_lt (tgt := 15) dX3_undo_1 (by decide) h (fun _ h => ?_) (fun _ h => ?_)
  · refine gr_iconst dX3_undo_15 gk_i_m1 ?_
    exact gq_retIM dX3_undo_16 rfl h
  · refine gr_iload_n dX3_undo_4 rfl rfl ?_
    refine gr_aload_n dX3_undo_5 rfl rfl ?_
    refine gr_getR q_0_2 fl_X3_24 dX3_undo_6 ?_
    refine gr_getIN q_7_7 fl_X3_188 dX3_undo_9 ?_
    refine gr_icmp_le (tgt := 17) dX3_undo_12 (by decide) h (fun _ h => ?_) (fun _ h => ?_)
    · refine gr_iconst dX3_undo_15 gk_i_m1 ?_
      exact gq_retIM dX3_undo_16 rfl h
    · refine gr_aload_n dX3_undo_17 rfl rfl ?_
      refine gr_getR q_0_2 fl_X3_24 dX3_undo_18 ?_
      refine gr_getIN q_7_7 fl_X3_188 dX3_undo_21 ?_
      refine gr_iload_n dX3_undo_24 rfl rfl ?_
      refine gr_isub dX3_undo_25 ?_
      refine gr_istore_n (lv' := [some (.ref 0), some (.int p0), some (.int ((m.1 7 7) - p0))]) dX3_undo_26 rfl (by decide) rfl ?_
      refine gr_aload_n dX3_undo_27 rfl rfl ?_
      refine gr_getR q_0_2 fl_X3_24 dX3_undo_28 ?_
      refine gr_aload_n dX3_undo_31 rfl rfl ?_
      refine gr_getR q_0_2 fl_X3_24 dX3_undo_32 ?_
      refine gr_getRN q_7_5 fl_X3_191 dX3_undo_35 ?_
      refine gr_iload_n dX3_undo_38 rfl rfl ?_
      obtain ⟨x1, hx1, h⟩ := gn_bd h
      refine gc_VN0 (c_X0_doAgain s_32 hx1) my_X0_doAgain mv_X0_doAgain ob_7 ml_X3_194 rfl rfl ⟨Nat.le_of_ble_eq_true rfl, Nat.le_of_ble_eq_true rfl⟩ (Nat.le_of_ble_eq_true rfl) dX3_undo_39 (fun fx1 => ?_)
      refine gr_iload_n dX3_undo_42 rfl rfl ?_
      exact gq_retIM dX3_undo_43 rfl h
def f_X3_keep (m : gn_M) (p0 : Int32) : Option (Int32 × gn_M) := (if p0 < 0 then some ((-1 : Int32), m) else (if p0 < (3 : Int32) then (if (m.1 7 6) = 0 then some ((-4 : Int32), m) else gn_ra 20 3 p0 (fun k1 => gn_ac m 32 40 (0 : Int32) k1 40 (0 : Int32) (m.1 7 7) (fun m2 => gn_wr m2 23 3 p0 (m2.1 7 7) (fun m3 => some ((m3.1 7 7), m3))))) else some ((-1 : Int32), m)))
set_option maxRecDepth 100000 in
set_option maxHeartbeats 4000000 in
theorem c_X3_keep {m : gn_M} {p0 : Int32} {v : Int32 × gn_M} (h : f_X3_keep m p0 = some v) : gn_Cl yX3_keep cX3_keep 2 (some .int) 1 26 [.ref 0, .int p0] m (some (.int v.1)) v.2 := by
  rw [f_X3_keep] at h
  refine gn_met (lv := [some (.ref 0), some (.int p0)]) pl_X3 rfl rfl (Nat.le_of_ble_eq_true rfl) ?_
  refine gr_iload_n dX3_keep_0 rfl rfl ?_
  refine gr_if_lt (tgt := 9) dX3_keep_1 (by decide) h (fun _ h => ?_) (fun _ h => ?_)
  · refine gr_iconst dX3_keep_9 gk_i_m1 ?_
    exact gq_retIM dX3_keep_10 rfl h
  · refine gr_iload_n dX3_keep_4 rfl rfl ?_
    refine gr_iconst dX3_keep_5 gk_i_3 ?_
    refine gr_icmp_lt (tgt := 11) dX3_keep_6 (by decide) h (fun _ h => ?_) (fun _ h => ?_)
    · refine gr_aload_n dX3_keep_11 rfl rfl ?_
      refine gr_getR q_0_2 fl_X3_24 dX3_keep_12 ?_
      refine gr_getIN q_7_6 fl_X3_126 dX3_keep_15 ?_
      refine gr_if_ne (tgt := 24) dX3_keep_18 (by decide) h (fun _ h => ?_) (fun _ h => ?_)
      · refine gr_bipush dX3_keep_21 gk_b_m4 ?_
        exact gq_retIM dX3_keep_23 rfl h
      · refine gr_aload_n dX3_keep_24 rfl rfl ?_
        refine gr_getR q_0_2 fl_X3_24 dX3_keep_25 ?_
        refine gr_getRN q_7_5 fl_X3_191 dX3_keep_28 ?_
        refine gr_iconst dX3_keep_31 gk_i_0 ?_
        refine gr_aload_n dX3_keep_32 rfl rfl ?_
        refine gr_getR q_0_4 fl_X3_37 dX3_keep_33 ?_
        refine gr_iload_n dX3_keep_36 rfl rfl ?_
        refine gq_aaload ra_9 dX3_keep_37 h (fun k1 hk1 h => ?_)
        refine gr_iconst dX3_keep_38 gk_i_0 ?_
        refine gr_aload_n dX3_keep_39 rfl rfl ?_
        refine gr_getR q_0_2 fl_X3_24 dX3_keep_40 ?_
        refine gr_getIN q_7_7 fl_X3_188 dX3_keep_43 ?_
        refine gq_copy s_32 hk1 ml_X3_109 w_copy ⟨Nat.le_of_ble_eq_true rfl, Nat.le_of_ble_eq_true rfl⟩ dX3_keep_46 h (fun m2 h => ?_)
        refine gr_aload_n dX3_keep_49 rfl rfl ?_
        refine gr_getR q_0_5 fl_X3_40 dX3_keep_50 ?_
        refine gr_iload_n dX3_keep_53 rfl rfl ?_
        refine gr_aload_n dX3_keep_54 rfl rfl ?_
        refine gr_getR q_0_2 fl_X3_24 dX3_keep_55 ?_
        refine gr_getIN q_7_7 fl_X3_188 dX3_keep_58 ?_
        refine gq_iastore s_23 dX3_keep_61 h (fun m3 h => ?_)
        refine gr_aload_n dX3_keep_62 rfl rfl ?_
        refine gr_getR q_0_2 fl_X3_24 dX3_keep_63 ?_
        refine gr_getIN q_7_7 fl_X3_188 dX3_keep_66 ?_
        exact gq_retIM dX3_keep_69 rfl h
    · refine gr_iconst dX3_keep_9 gk_i_m1 ?_
      exact gq_retIM dX3_keep_10 rfl h
def f_X3_on (n : Nat) (m : gn_M) (p0 : Int32) : Option (Int32 × gn_M) := (if p0 < 0 then some ((-1 : Int32), m) else (if p0 < (3 : Int32) then gn_rd m 23 3 p0 (fun x1 => (if x1 < 0 then (f_X3_found m (1 : Int32)).bind (fun x2 => some (x2.1, x2.2)) else gn_ra 20 3 p0 (fun k3 => gn_rd m 23 3 p0 (fun x4 => (f_X0_doAgain n m k3 x4).bind (fun x5 => some ((x5.1 7 7), x5)))))) else some ((-1 : Int32), m)))
set_option maxRecDepth 100000 in
set_option maxHeartbeats 4000000 in
theorem c_X3_on {n : Nat} {m : gn_M} {p0 : Int32} {v : Int32 × gn_M} (h : f_X3_on n m p0 = some v) : gn_Cl yX3_on cX3_on 2 (some .int) 4 99 [.ref 0, .int p0] m (some (.int v.1)) v.2 := by
  rw [f_X3_on] at h
  refine gn_met (lv := [some (.ref 0), some (.int p0)]) pl_X3 rfl rfl (Nat.le_of_ble_eq_true rfl) ?_
  refine gr_iload_n dX3_on_0 rfl rfl ?_
  refine gr_if_lt (tgt := 9) dX3_on_1 (by decide) h (fun _ h => ?_) (fun _ h => ?_)
  · refine gr_iconst dX3_on_9 gk_i_m1 ?_
    exact gq_retIM dX3_on_10 rfl h
  · refine gr_iload_n dX3_on_4 rfl rfl ?_
    refine gr_iconst dX3_on_5 gk_i_3 ?_
    refine gr_icmp_lt (tgt := 11) dX3_on_6 (by decide) h (fun _ h => ?_) (fun _ h => ?_)
    · refine gr_aload_n dX3_on_11 rfl rfl ?_
      refine gr_getR q_0_5 fl_X3_40 dX3_on_12 ?_
      refine gr_iload_n dX3_on_15 rfl rfl ?_
      refine gq_iaload s_23 dX3_on_16 h (fun x1 h => ?_)
      refine gr_if_ge (tgt := 26) dX3_on_17 (by decide) h (fun _ h => ?_) (fun _ h => ?_)
      · refine gr_aload_n dX3_on_20 rfl rfl ?_
        refine gr_iconst dX3_on_21 gk_i_1 ?_
        obtain ⟨x2, hx2, h⟩ := gn_bd h
        refine gc_VI (c_X3_found hx2) my_X3_found mv_X3_found ob_0 ml_X3_99 rfl rfl ⟨Nat.le_of_ble_eq_true rfl, Nat.le_of_ble_eq_true rfl⟩ (Nat.le_of_ble_eq_true rfl) dX3_on_22 (fun fx2 => ?_)
        exact gq_retIM dX3_on_25 rfl h
      · refine gr_aload_n dX3_on_26 rfl rfl ?_
        refine gr_getR q_0_2 fl_X3_24 dX3_on_27 ?_
        refine gr_aload_n dX3_on_30 rfl rfl ?_
        refine gr_getR q_0_4 fl_X3_37 dX3_on_31 ?_
        refine gr_iload_n dX3_on_34 rfl rfl ?_
        refine gq_aaload ra_9 dX3_on_35 h (fun k3 hk3 h => ?_)
        refine gr_aload_n dX3_on_36 rfl rfl ?_
        refine gr_getR q_0_5 fl_X3_40 dX3_on_37 ?_
        refine gr_iload_n dX3_on_40 rfl rfl ?_
        refine gq_iaload s_23 dX3_on_41 h (fun x4 h => ?_)
        obtain ⟨x5, hx5, h⟩ := gn_bd h
        refine gc_VN0 (c_X0_doAgain hk3 hx5) my_X0_doAgain mv_X0_doAgain ob_7 ml_X3_194 rfl rfl ⟨Nat.le_of_ble_eq_true rfl, Nat.le_of_ble_eq_true rfl⟩ (Nat.le_of_ble_eq_true rfl) dX3_on_42 (fun fx5 => ?_)
        refine gr_aload_n dX3_on_45 rfl rfl ?_
        refine gr_getR q_0_2 fl_X3_24 dX3_on_46 ?_
        refine gr_getIN q_7_7 fl_X3_188 dX3_on_49 ?_
        exact gq_retIM dX3_on_52 rfl h
    · refine gr_iconst dX3_on_9 gk_i_m1 ?_
      exact gq_retIM dX3_on_10 rfl h
def L_X0_opened_4 (n : Nat) (m : gn_M) (k : Int32 → Option (Int32)) : Nat → Int32 → Int32 → Option (Int32)
  | 0, _, _ => none
  | f + 1, v1, v2 => (if v2 < (m.1 7 6) then (f_X0_opensTo m v2).bind (fun x1 => (if x1 = 0 then L_X0_opened_4 n m k f v1 (v2 + (1 : Int32)) else L_X0_opened_4 n m k f (v1 ||| ((1 : Int32) <<< (v2 &&& 31))) (v2 + (1 : Int32)))) else k v1)
set_option maxRecDepth 100000 in
set_option maxHeartbeats 4000000 in
theorem l_X0_opened_4 {n : Nat} {m : gn_M} {k : Int32 → Option (Int32)} {v : Int32} (hk : ∀ (e1 : Int32), k e1 = some v → gn_Go RX0 cX0_opened 3 3 63 (some .int) none 32 [none, some (.int e1), none] [] m (some (.int v)) m) : ∀ (f : Nat) (v1 : Int32) (v2 : Int32), L_X0_opened_4 n m k f v1 v2 = some v → gn_Go RX0 cX0_opened 3 3 63 (some .int) none 4 [some (.ref 7), some (.int v1), some (.int v2)] [] m (some (.int v)) m := by
  intro f
  induction f with
  | zero =>
    intro v1 v2 h
    cases h
  | succ f ih =>
    intro v1 v2 h
    rw [L_X0_opened_4] at h
    refine gr_iload_n dX0_opened_4 rfl rfl ?_
    refine gr_aload_n dX0_opened_5 rfl rfl ?_
    refine gr_getI q_7_6 fl_X0_30 dX0_opened_6 ?_
    refine gr_icmp_ge (tgt := 32) dX0_opened_9 (by decide) h (fun _ h => ?_) (fun _ h => ?_)
    · refine gr_aload_n dX0_opened_12 rfl rfl ?_
      refine gr_iload_n dX0_opened_13 rfl rfl ?_
      obtain ⟨x1, hx1, h⟩ := gn_bd h
      refine gc_VI (c_X0_opensTo hx1) my_X0_opensTo mv_X0_opensTo ob_7 ml_X0_100 rfl rfl ⟨Nat.le_of_ble_eq_true rfl, Nat.le_of_ble_eq_true rfl⟩ (Nat.le_of_ble_eq_true rfl) dX0_opened_14 (fun fx1 => ?_)
      refine gr_if_eq (tgt := 26) dX0_opened_17 (by decide) h (fun _ h => ?_) (fun _ h => ?_)
      · refine gr_iinc (lv' := [some (.ref 7), some (.int v1), some (.int (v2 + (1 : Int32)))]) dX0_opened_26 rfl gk_i_1 (by decide) rfl ?_
        refine gr_goto (tgt := 4) dX0_opened_29 (by decide) ?_
        exact ih _ _ h
      · refine gr_iload_n dX0_opened_20 rfl rfl ?_
        refine gr_iconst dX0_opened_21 gk_i_1 ?_
        refine gr_iload_n dX0_opened_22 rfl rfl ?_
        refine gr_ishl dX0_opened_23 ?_
        refine gr_ior dX0_opened_24 ?_
        refine gr_istore_n (lv' := [some (.ref 7), some (.int (v1 ||| ((1 : Int32) <<< (v2 &&& 31)))), some (.int v2)]) dX0_opened_25 rfl (by decide) rfl ?_
        refine gr_iinc (lv' := [some (.ref 7), some (.int (v1 ||| ((1 : Int32) <<< (v2 &&& 31)))), some (.int (v2 + (1 : Int32)))]) dX0_opened_26 rfl gk_i_1 (by decide) rfl ?_
        refine gr_goto (tgt := 4) dX0_opened_29 (by decide) ?_
        exact ih _ _ h
    · refine gn_wkn [false, true, false] rfl ?_
      exact hk _ h
def f_X0_opened (n : Nat) (m : gn_M) : Option (Int32) := L_X0_opened_4 n m (fun (e2 : Int32) => some e2) n (0 : Int32) (0 : Int32)
set_option maxRecDepth 100000 in
set_option maxHeartbeats 4000000 in
theorem c_X0_opened {n : Nat} {m : gn_M} {v : Int32} (h : f_X0_opened n m = some v) : gn_Cl yX0_opened cX0_opened 3 (some .int) 3 63 [.ref 7] m (some (.int v)) m := by
  rw [f_X0_opened] at h
  refine gn_met (lv := [some (.ref 7), none, none]) pl_X0 rfl rfl (Nat.le_of_ble_eq_true rfl) ?_
  refine gr_iconst dX0_opened_0 gk_i_0 ?_
  refine gr_istore_n (lv' := [some (.ref 7), some (.int (0 : Int32)), none]) dX0_opened_1 rfl (by decide) rfl ?_
  refine gr_iconst dX0_opened_2 gk_i_0 ?_
  refine gr_istore_n (lv' := [some (.ref 7), some (.int (0 : Int32)), some (.int (0 : Int32))]) dX0_opened_3 rfl (by decide) rfl ?_
  refine l_X0_opened_4 (fun e2 h => ?_) _ _ _ h
  refine gr_iload_n dX0_opened_32 rfl rfl ?_
  exact gq_retI dX0_opened_33 rfl h
def f_X3_open (n : Nat) (m : gn_M) : Option (Int32 × gn_M) := gn_jn (fun (j1 : Int32) => (f_J6_bitCount_0f7a4 j1).bind (fun x3 => gn_pf m 0 10 x3 (fun m4 => (f_X0_opened n m4).bind (fun x5 => some (x5, m4))))) (fun J2 => (if (m.1 7 9) = (-9 : Int32) then J2 (((1 : Int32) <<< ((m.1 7 6) &&& 31)) - (1 : Int32)) else (f_X0_namersOf n m (m.1 7 9)).bind (fun x6 => J2 x6)))
set_option maxRecDepth 100000 in
set_option maxHeartbeats 4000000 in
theorem c_X3_open {n : Nat} {m : gn_M} {v : Int32 × gn_M} (h : f_X3_open n m = some v) : gn_Cl yX3_open cX3_open 2 (some .int) 4 85 [.ref 0] m (some (.int v.1)) v.2 := by
  rw [f_X3_open] at h
  refine gn_met (lv := [some (.ref 0), none]) pl_X3 rfl rfl (Nat.le_of_ble_eq_true rfl) ?_
  refine gr_iconst dX3_open_0 gk_i_1 ?_
  refine gr_aload_n dX3_open_1 rfl rfl ?_
  refine gr_getR q_0_2 fl_X3_24 dX3_open_2 ?_
  refine gr_getIN q_7_6 fl_X3_126 dX3_open_5 ?_
  refine gr_ishl dX3_open_8 ?_
  refine gr_iconst dX3_open_9 gk_i_1 ?_
  refine gr_isub dX3_open_10 ?_
  refine gr_istore_n (lv' := [some (.ref 0), some (.int (((1 : Int32) <<< ((m.1 7 6) &&& 31)) - (1 : Int32)))]) dX3_open_11 rfl (by decide) rfl ?_
  refine gr_aload_n dX3_open_12 rfl rfl ?_
  refine gr_aload_n dX3_open_13 rfl rfl ?_
  refine gr_getR q_0_2 fl_X3_24 dX3_open_14 ?_
  refine gr_getIN q_7_9 fl_X3_197 dX3_open_17 ?_
  refine gr_bipush dX3_open_20 gk_b_m9 ?_
  refine gn_jnE (P := fun (j1 : Int32) => gn_Go RX3 cX3_open 2 4 85 (some .int) none 43 [some (.ref 0), none] [.int j1, .ref 0] m (some (.int v.1)) v.2) h (fun j1 h => ?_) (fun J2 hJ2 h => ?_)
  · obtain ⟨x3, hx3, h⟩ := gn_bd h
    refine gc_SI (c_J6_bitCount_0f7a4 hx3) my_J6_bitCount_0f7a4 ms_J6_bitCount_0f7a4 ml_X3_140 rfl rfl ⟨Nat.le_of_ble_eq_true rfl, Nat.le_of_ble_eq_true rfl⟩ (Nat.le_of_ble_eq_true rfl) dX3_open_43 (fun fx3 => ?_)
    refine gq_putI q_0_10 rfl rfl fl_X3_57 dX3_open_46 h (fun m4 h => ?_)
    refine gr_aload_n dX3_open_49 rfl rfl ?_
    refine gr_getR q_0_2 fl_X3_24 dX3_open_50 ?_
    obtain ⟨x5, hx5, h⟩ := gn_bd h
    refine gc_VNI (c_X0_opened hx5) my_X0_opened mv_X0_opened ob_7 ml_X3_200 rfl rfl ⟨Nat.le_of_ble_eq_true rfl, Nat.le_of_ble_eq_true rfl⟩ (Nat.le_of_ble_eq_true rfl) dX3_open_53 (fun fx5 => ?_)
    exact gq_retIM dX3_open_56 rfl h
  · refine gr_icmp_ne (tgt := 29) dX3_open_22 (by decide) h (fun _ h => ?_) (fun _ h => ?_)
    · refine gr_iload_n dX3_open_25 rfl rfl ?_
      refine gr_goto (tgt := 43) dX3_open_26 (by decide) ?_
      refine gn_wkn [true, false] rfl ?_
      exact hJ2 (((1 : Int32) <<< ((m.1 7 6) &&& 31)) - (1 : Int32)) h
    · refine gr_aload_n dX3_open_29 rfl rfl ?_
      refine gr_getR q_0_2 fl_X3_24 dX3_open_30 ?_
      refine gr_aload_n dX3_open_33 rfl rfl ?_
      refine gr_getR q_0_2 fl_X3_24 dX3_open_34 ?_
      refine gr_getIN q_7_9 fl_X3_197 dX3_open_37 ?_
      obtain ⟨x6, hx6, h⟩ := gn_bd h
      refine gc_VNI (c_X0_namersOf hx6) my_X0_namersOf mv_X0_namersOf ob_7 ml_X3_145 rfl rfl ⟨Nat.le_of_ble_eq_true rfl, Nat.le_of_ble_eq_true rfl⟩ (Nat.le_of_ble_eq_true rfl) dX3_open_40 (fun fx6 => ?_)
      refine gn_wkn [true, false] rfl ?_
      exact hJ2 x6 h
def L_X1_look_45 (n : Nat) (a2 : Nat) (a3 : Int32) (a4 : Int32) (k : gn_M → Option (gn_M)) : Nat → Int32 → gn_M → Option (gn_M)
  | 0, _, _ => none
  | f + 1, v5, m => (if v5 < (m.1 8 5) then (f_X3_isIn a4 v5).bind (fun x6 => (if x6 = 0 then L_X1_look_45 n a2 a3 a4 k f (v5 + (1 : Int32)) m else gn_rd m 33 7 v5 (fun x7 => gn_wr m 33 7 v5 (x7 ||| ((1 : Int32) <<< (a3 &&& 31))) (fun m8 => L_X1_look_45 n a2 a3 a4 k f (v5 + (1 : Int32)) m8)))) else k m)
set_option maxRecDepth 100000 in
set_option maxHeartbeats 4000000 in
theorem l_X1_look_45 {n : Nat} {a2 : Nat} {a3 : Int32} {a4 : Int32} {k : gn_M → Option (gn_M)} {v : gn_M} (ha2 : gn_S[a2]? = some (.inl (0, 7))) (hk : ∀ (m1 : gn_M), k m1 = some v → gn_Go RX1 cX1_look 6 1 23 none none 83 [some (.ref 8), some (.ref 7), some (.ref a2), some (.int a3), none, none] [] m1 none v) : ∀ (f : Nat) (v5 : Int32) (m : gn_M), L_X1_look_45 n a2 a3 a4 k f v5 m = some v → gn_Go RX1 cX1_look 6 1 23 none none 45 [some (.ref 8), some (.ref 7), some (.ref a2), some (.int a3), some (.int a4), some (.int v5)] [] m none v := by
  intro f
  induction f with
  | zero =>
    intro v5 m h
    cases h
  | succ f ih =>
    intro v5 m h
    rw [L_X1_look_45] at h
    refine gr_iload dX1_look_45 rfl ?_
    refine gr_aload_n dX1_look_47 rfl rfl ?_
    refine gr_getI q_8_5 fl_X1_27 dX1_look_48 ?_
    refine gr_icmp_ge (tgt := 83) dX1_look_51 (by decide) h (fun _ h => ?_) (fun _ h => ?_)
    · refine gr_iload dX1_look_54 rfl ?_
      refine gr_iload dX1_look_56 rfl ?_
      obtain ⟨x6, hx6, h⟩ := gn_bd h
      refine gc_SNI (c_X3_isIn hx6) my_X3_isIn ms_X3_isIn ml_X1_60 rfl rfl ⟨Nat.le_of_ble_eq_true rfl, Nat.le_of_ble_eq_true rfl⟩ (Nat.le_of_ble_eq_true rfl) dX1_look_58 (fun fx6 => ?_)
      refine gr_if_eq (tgt := 77) dX1_look_61 (by decide) h (fun _ h => ?_) (fun _ h => ?_)
      · refine gr_iinc (lv' := [some (.ref 8), some (.ref 7), some (.ref a2), some (.int a3), some (.int a4), some (.int (v5 + (1 : Int32)))]) dX1_look_77 rfl gk_i_1 (by decide) rfl ?_
        refine gr_goto (tgt := 45) dX1_look_80 (by decide) ?_
        exact ih _ _ h
      · refine gr_aload_n dX1_look_64 rfl rfl ?_
        refine gr_getR q_8_0 fl_X1_9 dX1_look_65 ?_
        refine gr_iload dX1_look_68 rfl ?_
        refine gr_dup2 dX1_look_70 rfl rfl ?_
        refine gq_iaload s_33 dX1_look_71 h (fun x7 h => ?_)
        refine gr_iconst dX1_look_72 gk_i_1 ?_
        refine gr_iload_n dX1_look_73 rfl rfl ?_
        refine gr_ishl dX1_look_74 ?_
        refine gr_ior dX1_look_75 ?_
        refine gq_iastore s_33 dX1_look_76 h (fun m8 h => ?_)
        refine gr_iinc (lv' := [some (.ref 8), some (.ref 7), some (.ref a2), some (.int a3), some (.int a4), some (.int (v5 + (1 : Int32)))]) dX1_look_77 rfl gk_i_1 (by decide) rfl ?_
        refine gr_goto (tgt := 45) dX1_look_80 (by decide) ?_
        exact ih _ _ h
    · refine gn_wkn [true, true, true, true, false, false] rfl ?_
      exact hk _ h
def L_X1_look_26 (n : Nat) (a2 : Nat) (k : gn_M → Option (gn_M)) : Nat → Int32 → gn_M → Option (gn_M)
  | 0, _, _ => none
  | f + 1, v3, m => (if v3 < (m.1 8 5) then (f_X0_naming m v3 a2).bind (fun x5 => L_X1_look_45 n a2 v3 x5 (fun (m9 : gn_M) => L_X1_look_26 n a2 k f (v3 + (1 : Int32)) m9) n (0 : Int32) m) else k m)
set_option maxRecDepth 100000 in
set_option maxHeartbeats 4000000 in
theorem l_X1_look_26 {n : Nat} {a2 : Nat} {k : gn_M → Option (gn_M)} {v : gn_M} (ha2 : gn_S[a2]? = some (.inl (0, 7))) (hk : ∀ (m1 : gn_M), k m1 = some v → gn_Go RX1 cX1_look 6 1 23 none none 89 [some (.ref 8), some (.ref 7), none, none, none, none] [] m1 none v) : ∀ (f : Nat) (v3 : Int32) (m : gn_M), L_X1_look_26 n a2 k f v3 m = some v → gn_Go RX1 cX1_look 6 1 23 none none 26 [some (.ref 8), some (.ref 7), some (.ref a2), some (.int v3), none, none] [] m none v := by
  intro f
  induction f with
  | zero =>
    intro v3 m h
    cases h
  | succ f ih =>
    intro v3 m h
    rw [L_X1_look_26] at h
    refine gr_iload_n dX1_look_26 rfl rfl ?_
    refine gr_aload_n dX1_look_27 rfl rfl ?_
    refine gr_getI q_8_5 fl_X1_27 dX1_look_28 ?_
    refine gr_icmp_ge (tgt := 89) dX1_look_31 (by decide) h (fun _ h => ?_) (fun _ h => ?_)
    · refine gr_aload_n dX1_look_34 rfl rfl ?_
      refine gr_iload_n dX1_look_35 rfl rfl ?_
      refine gr_aload_n dX1_look_36 rfl rfl ?_
      obtain ⟨x5, hx5, h⟩ := gn_bd h
      refine gc_VNI (c_X0_naming ha2 hx5) my_X0_naming mv_X0_naming ob_7 ml_X1_56 rfl rfl ⟨Nat.le_of_ble_eq_true rfl, Nat.le_of_ble_eq_true rfl⟩ (Nat.le_of_ble_eq_true rfl) dX1_look_37 (fun fx5 => ?_)
      refine gr_istore (lv' := [some (.ref 8), some (.ref 7), some (.ref a2), some (.int v3), some (.int x5), none]) dX1_look_40 (by decide) rfl ?_
      refine gr_iconst dX1_look_42 gk_i_0 ?_
      refine gr_istore (lv' := [some (.ref 8), some (.ref 7), some (.ref a2), some (.int v3), some (.int x5), some (.int (0 : Int32))]) dX1_look_43 (by decide) rfl ?_
      refine l_X1_look_45 ha2 (fun m9 h => ?_) _ _ _ h
      refine gr_iinc (lv' := [some (.ref 8), some (.ref 7), some (.ref a2), some (.int (v3 + (1 : Int32))), none, none]) dX1_look_83 rfl gk_i_1 (by decide) rfl ?_
      refine gr_goto (tgt := 26) dX1_look_86 (by decide) ?_
      exact ih _ _ h
    · refine gn_wkn [true, true, false, false, false, false] rfl ?_
      exact hk _ h
def f_X1_look (n : Nat) (m : gn_M) (p1 : Nat) : Option (gn_M) := gn_pf m 8 5 (m.1 7 6) (fun m1 => (f_X0_left m1).bind (fun x2 => gn_pf m1 8 6 x2 (fun m3 => (f_J7_fill_53178 n m3 33 7 (0 : Int32)).bind (fun x4 => L_X1_look_26 n p1 (fun (m10 : gn_M) => (if (if (m10.1 7 9) < 0 then (0 : Int32) else (if (m10.1 7 9) < (m10.1 8 5) then (1 : Int32) else (0 : Int32))) = 0 then gn_pf m10 8 7 (m10.1 8 6) (fun m12 => some m12) else gn_rd m10 33 7 (m10.1 7 9) (fun x13 => gn_pf m10 8 7 (x13 &&& (m10.1 8 6)) (fun m14 => some m14)))) n (0 : Int32) x4))))
set_option maxRecDepth 100000 in
set_option maxHeartbeats 4000000 in
theorem c_X1_look {n : Nat} {m : gn_M} {p1 : Nat} {v : gn_M} (hp1 : gn_S[p1]? = some (.inl (0, 7))) (h : f_X1_look n m p1 = some v) : gn_Cl yX1_look cX1_look 6 none 1 23 [.ref 8, .ref 7, .ref p1] m none v := by
  rw [f_X1_look] at h
  refine gn_met (lv := [some (.ref 8), some (.ref 7), some (.ref p1), none, none, none]) pl_X1 rfl rfl (Nat.le_of_ble_eq_true rfl) ?_
  refine gr_aload_n dX1_look_0 rfl rfl ?_
  refine gr_aload_n dX1_look_1 rfl rfl ?_
  refine gr_getIN q_7_6 fl_X1_44 dX1_look_2 ?_
  refine gq_putI q_8_5 rfl rfl fl_X1_27 dX1_look_5 h (fun m1 h => ?_)
  refine gr_aload_n dX1_look_8 rfl rfl ?_
  refine gr_aload_n dX1_look_9 rfl rfl ?_
  obtain ⟨x2, hx2, h⟩ := gn_bd h
  refine gc_VNI (c_X0_left hx2) my_X0_left mv_X0_left ob_7 ml_X1_47 rfl rfl ⟨Nat.le_of_ble_eq_true rfl, Nat.le_of_ble_eq_true rfl⟩ (Nat.le_of_ble_eq_true rfl) dX1_look_10 (fun fx2 => ?_)
  refine gq_putI q_8_6 rfl rfl fl_X1_31 dX1_look_13 h (fun m3 h => ?_)
  refine gr_aload_n dX1_look_16 rfl rfl ?_
  refine gr_getR q_8_0 fl_X1_9 dX1_look_17 ?_
  refine gr_iconst dX1_look_20 gk_i_0 ?_
  obtain ⟨x4, hx4, h⟩ := gn_bd h
  refine gc_S0 (c_J7_fill_53178 s_33 hx4) my_J7_fill_53178 ms_J7_fill_53178 ml_X1_50 rfl rfl ⟨Nat.le_of_ble_eq_true rfl, Nat.le_of_ble_eq_true rfl⟩ (Nat.le_of_ble_eq_true rfl) dX1_look_21 (fun fx4 => ?_)
  refine gr_iconst dX1_look_24 gk_i_0 ?_
  refine gr_istore_n (lv' := [some (.ref 8), some (.ref 7), some (.ref p1), some (.int (0 : Int32)), none, none]) dX1_look_25 rfl (by decide) rfl ?_
  refine l_X1_look_26 hp1 (fun m10 h => ?_) _ _ _ h
  refine gr_aload_n dX1_look_89 rfl rfl ?_
  refine gr_getIN q_7_9 fl_X1_64 dX1_look_90 ?_
  have hJ : ∀ y11 : Int32, y11 = (if (m10.1 7 9) < 0 then (0 : Int32) else (if (m10.1 7 9) < (m10.1 8 5) then (1 : Int32) else (0 : Int32))) → gn_Go RX1 cX1_look 6 1 23 none none 112 [some (.ref 8), some (.ref 7), none, none, none, none] [.int y11] m10 none v := by
    intro y11 hx
    subst hx
    refine gr_istore_n (lv' := [some (.ref 8), some (.ref 7), none, some (.int (if (m10.1 7 9) < 0 then (0 : Int32) else (if (m10.1 7 9) < (m10.1 8 5) then (1 : Int32) else (0 : Int32)))), none, none]) dX1_look_112 rfl (by decide) rfl ?_
    refine gr_aload_n dX1_look_113 rfl rfl ?_
    refine gr_iload_n dX1_look_114 rfl rfl ?_
    refine gr_if_eq (tgt := 135) dX1_look_115 (by decide) h (fun _ h => ?_) (fun _ h => ?_)
    · refine gr_aload_n dX1_look_135 rfl rfl ?_
      refine gr_getI q_8_6 fl_X1_31 dX1_look_136 ?_
      refine gq_putI q_8_7 rfl rfl fl_X1_34 dX1_look_139 h (fun m12 h => ?_)
      exact gq_retVM dX1_look_142 trivial h
    · refine gr_aload_n dX1_look_118 rfl rfl ?_
      refine gr_getR q_8_0 fl_X1_9 dX1_look_119 ?_
      refine gr_aload_n dX1_look_122 rfl rfl ?_
      refine gr_getIN q_7_9 fl_X1_64 dX1_look_123 ?_
      refine gq_iaload s_33 dX1_look_126 h (fun x13 h => ?_)
      refine gr_aload_n dX1_look_127 rfl rfl ?_
      refine gr_getI q_8_6 fl_X1_31 dX1_look_128 ?_
      refine gr_iand dX1_look_131 ?_
      refine gr_goto (tgt := 139) dX1_look_132 (by decide) ?_
      refine gq_putI q_8_7 rfl rfl fl_X1_34 dX1_look_139 h (fun m14 h => ?_)
      exact gq_retVM dX1_look_142 trivial h
  by_cases hc0 : (m10.1 7 9) < 0
  · refine gr_ifT_lt (tgt := 111) dX1_look_93 (by decide) hc0 ?_
    refine gr_iconst dX1_look_111 gk_i_0 ?_
    exact hJ _ (by rw [if_pos hc0])
  · refine gr_ifF_lt (tgt := 111) dX1_look_93 (by decide) hc0 ?_
    refine gr_aload_n dX1_look_96 rfl rfl ?_
    refine gr_getIN q_7_9 fl_X1_64 dX1_look_97 ?_
    refine gr_aload_n dX1_look_100 rfl rfl ?_
    refine gr_getI q_8_5 fl_X1_27 dX1_look_101 ?_
    by_cases hc1 : (m10.1 7 9) < (m10.1 8 5)
    · refine gr_icmpT_ge (tgt := 111) dX1_look_104 (by decide) hc1 ?_
      refine gr_iconst dX1_look_107 gk_i_1 ?_
      refine gr_goto (tgt := 112) dX1_look_108 (by decide) ?_
      exact hJ _ (by rw [if_neg hc0, if_pos hc1])
    · refine gr_icmpF_ge (tgt := 111) dX1_look_104 (by decide) hc1 ?_
      refine gr_iconst dX1_look_111 gk_i_0 ?_
      exact hJ _ (by rw [if_neg hc0, if_neg hc1])
def f_X1_within (m : gn_M) (p0 : Int32) : Option (Int32) := (if (p0 &&& ((m.1 8 6) ^^^ (-1 : Int32))) = 0 then some (1 : Int32) else some (0 : Int32))
set_option maxRecDepth 100000 in
set_option maxHeartbeats 4000000 in
theorem c_X1_within {m : gn_M} {p0 : Int32} {v : Int32} (h : f_X1_within m p0 = some v) : gn_Cl yX1_within cX1_within 2 (some .boolean) 0 0 [.ref 8, .int p0] m (some (.int v)) m := by
  rw [f_X1_within] at h
  refine gn_met (lv := [some (.ref 8), some (.int p0)]) pl_X1 rfl rfl (Nat.le_of_ble_eq_true rfl) ?_
  refine gr_iload_n dX1_within_0 rfl rfl ?_
  refine gr_aload_n dX1_within_1 rfl rfl ?_
  refine gr_getI q_8_6 fl_X1_31 dX1_within_2 ?_
  refine gr_iconst dX1_within_5 gk_i_m1 ?_
  refine gr_ixor dX1_within_6 ?_
  refine gr_iand dX1_within_7 ?_
  refine gr_if_ne (tgt := 15) dX1_within_8 (by decide) h (fun _ h => ?_) (fun _ h => ?_)
  · refine gr_iconst dX1_within_11 gk_i_1 ?_
    refine gr_goto (tgt := 16) dX1_within_12 (by decide) ?_
    exact gq_retI dX1_within_16 rfl h
  · refine gr_iconst dX1_within_15 gk_i_0 ?_
    exact gq_retI dX1_within_16 rfl h
def L_X1_startersOf_4 (n : Nat) (m : gn_M) (a1 : Int32) (k : Int32 → Option (Int32)) : Nat → Int32 → Int32 → Option (Int32)
  | 0, _, _ => none
  | f + 1, v2, v3 => (if v3 < (m.1 8 5) then (f_X3_isIn a1 v3).bind (fun x1 => (if x1 = 0 then L_X1_startersOf_4 n m a1 k f v2 (v3 + (1 : Int32)) else (if (a1 &&& (((1 : Int32) <<< (v3 &&& 31)) ^^^ (-1 : Int32))) = 0 then L_X1_startersOf_4 n m a1 k f (v2 ||| ((1 : Int32) <<< (v3 &&& 31))) (v3 + (1 : Int32)) else gn_rd m 34 128 (a1 &&& (((1 : Int32) <<< (v3 &&& 31)) ^^^ (-1 : Int32))) (fun x2 => gn_rd m 33 7 v3 (fun x3 => (if (x2 &&& x3) = 0 then L_X1_startersOf_4 n m a1 k f v2 (v3 + (1 : Int32)) else L_X1_startersOf_4 n m a1 k f (v2 ||| ((1 : Int32) <<< (v3 &&& 31))) (v3 + (1 : Int32)))))))) else k v2)
set_option maxRecDepth 100000 in
set_option maxHeartbeats 4000000 in
theorem l_X1_startersOf_4 {n : Nat} {m : gn_M} {a1 : Int32} {k : Int32 → Option (Int32)} {v : Int32} (hk : ∀ (e2 : Int32), k e2 = some v → gn_Go RX1 cX1_startersOf 5 1 21 (some .int) none 63 [none, none, some (.int e2), none, none] [] m (some (.int v)) m) : ∀ (f : Nat) (v2 : Int32) (v3 : Int32), L_X1_startersOf_4 n m a1 k f v2 v3 = some v → gn_Go RX1 cX1_startersOf 5 1 21 (some .int) none 4 [some (.ref 8), some (.int a1), some (.int v2), some (.int v3), none] [] m (some (.int v)) m := by
  intro f
  induction f with
  | zero =>
    intro v2 v3 h
    cases h
  | succ f ih =>
    intro v2 v3 h
    rw [L_X1_startersOf_4] at h
    refine gr_iload_n dX1_startersOf_4 rfl rfl ?_
    refine gr_aload_n dX1_startersOf_5 rfl rfl ?_
    refine gr_getI q_8_5 fl_X1_27 dX1_startersOf_6 ?_
    refine gr_icmp_ge (tgt := 63) dX1_startersOf_9 (by decide) h (fun _ h => ?_) (fun _ h => ?_)
    · refine gr_iload_n dX1_startersOf_12 rfl rfl ?_
      refine gr_iload_n dX1_startersOf_13 rfl rfl ?_
      obtain ⟨x1, hx1, h⟩ := gn_bd h
      refine gc_SNI (c_X3_isIn hx1) my_X3_isIn ms_X3_isIn ml_X1_60 rfl rfl ⟨Nat.le_of_ble_eq_true rfl, Nat.le_of_ble_eq_true rfl⟩ (Nat.le_of_ble_eq_true rfl) dX1_startersOf_14 (fun fx1 => ?_)
      refine gr_if_eq (tgt := 57) dX1_startersOf_17 (by decide) h (fun _ h => ?_) (fun _ h => ?_)
      · refine gr_iinc (lv' := [some (.ref 8), some (.int a1), some (.int v2), some (.int (v3 + (1 : Int32))), none]) dX1_startersOf_57 rfl gk_i_1 (by decide) rfl ?_
        refine gr_goto (tgt := 4) dX1_startersOf_60 (by decide) ?_
        exact ih _ _ h
      · refine gr_iload_n dX1_startersOf_20 rfl rfl ?_
        refine gr_iconst dX1_startersOf_21 gk_i_1 ?_
        refine gr_iload_n dX1_startersOf_22 rfl rfl ?_
        refine gr_ishl dX1_startersOf_23 ?_
        refine gr_iconst dX1_startersOf_24 gk_i_m1 ?_
        refine gr_ixor dX1_startersOf_25 ?_
        refine gr_iand dX1_startersOf_26 ?_
        refine gr_istore (lv' := [some (.ref 8), some (.int a1), some (.int v2), some (.int v3), some (.int (a1 &&& (((1 : Int32) <<< (v3 &&& 31)) ^^^ (-1 : Int32))))]) dX1_startersOf_27 (by decide) rfl ?_
        refine gr_iload dX1_startersOf_29 rfl ?_
        refine gr_if_eq (tgt := 51) dX1_startersOf_31 (by decide) h (fun _ h => ?_) (fun _ h => ?_)
        · refine gr_iload_n dX1_startersOf_51 rfl rfl ?_
          refine gr_iconst dX1_startersOf_52 gk_i_1 ?_
          refine gr_iload_n dX1_startersOf_53 rfl rfl ?_
          refine gr_ishl dX1_startersOf_54 ?_
          refine gr_ior dX1_startersOf_55 ?_
          refine gr_istore_n (lv' := [some (.ref 8), some (.int a1), some (.int (v2 ||| ((1 : Int32) <<< (v3 &&& 31)))), some (.int v3), some (.int (a1 &&& (((1 : Int32) <<< (v3 &&& 31)) ^^^ (-1 : Int32))))]) dX1_startersOf_56 rfl (by decide) rfl ?_
          refine gr_iinc (lv' := [some (.ref 8), some (.int a1), some (.int (v2 ||| ((1 : Int32) <<< (v3 &&& 31)))), some (.int (v3 + (1 : Int32))), some (.int (a1 &&& (((1 : Int32) <<< (v3 &&& 31)) ^^^ (-1 : Int32))))]) dX1_startersOf_57 rfl gk_i_1 (by decide) rfl ?_
          refine gr_goto (tgt := 4) dX1_startersOf_60 (by decide) ?_
          refine gn_wkn [true, true, true, true, false] rfl ?_
          exact ih _ _ h
        · refine gr_aload_n dX1_startersOf_34 rfl rfl ?_
          refine gr_getR q_8_1 fl_X1_15 dX1_startersOf_35 ?_
          refine gr_iload dX1_startersOf_38 rfl ?_
          refine gq_iaload s_34 dX1_startersOf_40 h (fun x2 h => ?_)
          refine gr_aload_n dX1_startersOf_41 rfl rfl ?_
          refine gr_getR q_8_0 fl_X1_9 dX1_startersOf_42 ?_
          refine gr_iload_n dX1_startersOf_45 rfl rfl ?_
          refine gq_iaload s_33 dX1_startersOf_46 h (fun x3 h => ?_)
          refine gr_iand dX1_startersOf_47 ?_
          refine gr_if_eq (tgt := 57) dX1_startersOf_48 (by decide) h (fun _ h => ?_) (fun _ h => ?_)
          · refine gr_iinc (lv' := [some (.ref 8), some (.int a1), some (.int v2), some (.int (v3 + (1 : Int32))), some (.int (a1 &&& (((1 : Int32) <<< (v3 &&& 31)) ^^^ (-1 : Int32))))]) dX1_startersOf_57 rfl gk_i_1 (by decide) rfl ?_
            refine gr_goto (tgt := 4) dX1_startersOf_60 (by decide) ?_
            refine gn_wkn [true, true, true, true, false] rfl ?_
            exact ih _ _ h
          · refine gr_iload_n dX1_startersOf_51 rfl rfl ?_
            refine gr_iconst dX1_startersOf_52 gk_i_1 ?_
            refine gr_iload_n dX1_startersOf_53 rfl rfl ?_
            refine gr_ishl dX1_startersOf_54 ?_
            refine gr_ior dX1_startersOf_55 ?_
            refine gr_istore_n (lv' := [some (.ref 8), some (.int a1), some (.int (v2 ||| ((1 : Int32) <<< (v3 &&& 31)))), some (.int v3), some (.int (a1 &&& (((1 : Int32) <<< (v3 &&& 31)) ^^^ (-1 : Int32))))]) dX1_startersOf_56 rfl (by decide) rfl ?_
            refine gr_iinc (lv' := [some (.ref 8), some (.int a1), some (.int (v2 ||| ((1 : Int32) <<< (v3 &&& 31)))), some (.int (v3 + (1 : Int32))), some (.int (a1 &&& (((1 : Int32) <<< (v3 &&& 31)) ^^^ (-1 : Int32))))]) dX1_startersOf_57 rfl gk_i_1 (by decide) rfl ?_
            refine gr_goto (tgt := 4) dX1_startersOf_60 (by decide) ?_
            refine gn_wkn [true, true, true, true, false] rfl ?_
            exact ih _ _ h
    · refine gn_wkn [false, false, true, false, false] rfl ?_
      exact hk _ h
def f_X1_startersOf (n : Nat) (m : gn_M) (p0 : Int32) : Option (Int32) := L_X1_startersOf_4 n m p0 (fun (e4 : Int32) => some e4) n (0 : Int32) (0 : Int32)
set_option maxRecDepth 100000 in
set_option maxHeartbeats 4000000 in
theorem c_X1_startersOf {n : Nat} {m : gn_M} {p0 : Int32} {v : Int32} (h : f_X1_startersOf n m p0 = some v) : gn_Cl yX1_startersOf cX1_startersOf 5 (some .int) 1 21 [.ref 8, .int p0] m (some (.int v)) m := by
  rw [f_X1_startersOf] at h
  refine gn_met (lv := [some (.ref 8), some (.int p0), none, none, none]) pl_X1 rfl rfl (Nat.le_of_ble_eq_true rfl) ?_
  refine gr_iconst dX1_startersOf_0 gk_i_0 ?_
  refine gr_istore_n (lv' := [some (.ref 8), some (.int p0), some (.int (0 : Int32)), none, none]) dX1_startersOf_1 rfl (by decide) rfl ?_
  refine gr_iconst dX1_startersOf_2 gk_i_0 ?_
  refine gr_istore_n (lv' := [some (.ref 8), some (.int p0), some (.int (0 : Int32)), some (.int (0 : Int32)), none]) dX1_startersOf_3 rfl (by decide) rfl ?_
  refine l_X1_startersOf_4 (fun e4 h => ?_) _ _ _ h
  refine gr_iload_n dX1_startersOf_63 rfl rfl ?_
  exact gq_retI dX1_startersOf_64 rfl h
def L_X1_chain_2 (n : Nat) (k : gn_M → Option (gn_M)) : Nat → Int32 → gn_M → Option (gn_M)
  | 0, _, _ => none
  | f + 1, v1, m => (if (m.1 8 6) < v1 then k m else (f_X1_within m v1).bind (fun x1 => (if x1 = 0 then L_X1_chain_2 n k f (v1 + (1 : Int32)) m else (f_X1_startersOf n m v1).bind (fun x2 => gn_wr m 34 128 v1 x2 (fun m3 => L_X1_chain_2 n k f (v1 + (1 : Int32)) m3)))))
set_option maxRecDepth 100000 in
set_option maxHeartbeats 4000000 in
theorem l_X1_chain_2 {n : Nat} {k : gn_M → Option (gn_M)} {v : gn_M} (hk : ∀ (m1 : gn_M), k m1 = some v → gn_Go RX1 cX1_chain 2 2 45 none none 35 [none, none] [] m1 none v) : ∀ (f : Nat) (v1 : Int32) (m : gn_M), L_X1_chain_2 n k f v1 m = some v → gn_Go RX1 cX1_chain 2 2 45 none none 2 [some (.ref 8), some (.int v1)] [] m none v := by
  intro f
  induction f with
  | zero =>
    intro v1 m h
    cases h
  | succ f ih =>
    intro v1 m h
    rw [L_X1_chain_2] at h
    refine gr_iload_n dX1_chain_2 rfl rfl ?_
    refine gr_aload_n dX1_chain_3 rfl rfl ?_
    refine gr_getI q_8_6 fl_X1_31 dX1_chain_4 ?_
    refine gr_icmp_gt (tgt := 35) dX1_chain_7 (by decide) h (fun _ h => ?_) (fun _ h => ?_)
    · refine gn_wkn [false, false] rfl ?_
      exact hk _ h
    · refine gr_aload_n dX1_chain_10 rfl rfl ?_
      refine gr_iload_n dX1_chain_11 rfl rfl ?_
      obtain ⟨x1, hx1, h⟩ := gn_bd h
      refine gc_VI (c_X1_within hx1) my_X1_within mv_X1_within ob_8 ml_X1_73 rfl rfl ⟨Nat.le_of_ble_eq_true rfl, Nat.le_of_ble_eq_true rfl⟩ (Nat.le_of_ble_eq_true rfl) dX1_chain_12 (fun fx1 => ?_)
      refine gr_if_eq (tgt := 29) dX1_chain_15 (by decide) h (fun _ h => ?_) (fun _ h => ?_)
      · refine gr_iinc (lv' := [some (.ref 8), some (.int (v1 + (1 : Int32)))]) dX1_chain_29 rfl gk_i_1 (by decide) rfl ?_
        refine gr_goto (tgt := 2) dX1_chain_32 (by decide) ?_
        exact ih _ _ h
      · refine gr_aload_n dX1_chain_18 rfl rfl ?_
        refine gr_getR q_8_1 fl_X1_15 dX1_chain_19 ?_
        refine gr_iload_n dX1_chain_22 rfl rfl ?_
        refine gr_aload_n dX1_chain_23 rfl rfl ?_
        refine gr_iload_n dX1_chain_24 rfl rfl ?_
        obtain ⟨x2, hx2, h⟩ := gn_bd h
        refine gc_VI (c_X1_startersOf hx2) my_X1_startersOf mv_X1_startersOf ob_8 ml_X1_77 rfl rfl ⟨Nat.le_of_ble_eq_true rfl, Nat.le_of_ble_eq_true rfl⟩ (Nat.le_of_ble_eq_true rfl) dX1_chain_25 (fun fx2 => ?_)
        refine gq_iastore s_34 dX1_chain_28 h (fun m3 h => ?_)
        refine gr_iinc (lv' := [some (.ref 8), some (.int (v1 + (1 : Int32)))]) dX1_chain_29 rfl gk_i_1 (by decide) rfl ?_
        refine gr_goto (tgt := 2) dX1_chain_32 (by decide) ?_
        exact ih _ _ h
def f_X1_chain (n : Nat) (m : gn_M) : Option (gn_M) := L_X1_chain_2 n (fun (m4 : gn_M) => some m4) n (1 : Int32) m
set_option maxRecDepth 100000 in
set_option maxHeartbeats 4000000 in
theorem c_X1_chain {n : Nat} {m : gn_M} {v : gn_M} (h : f_X1_chain n m = some v) : gn_Cl yX1_chain cX1_chain 2 none 2 45 [.ref 8] m none v := by
  rw [f_X1_chain] at h
  refine gn_met (lv := [some (.ref 8), none]) pl_X1 rfl rfl (Nat.le_of_ble_eq_true rfl) ?_
  refine gr_iconst dX1_chain_0 gk_i_1 ?_
  refine gr_istore_n (lv' := [some (.ref 8), some (.int (1 : Int32))]) dX1_chain_1 rfl (by decide) rfl ?_
  refine l_X1_chain_2 (fun m4 h => ?_) _ _ _ h
  exact gq_retVM dX1_chain_35 trivial h
def f_X1_survey (n : Nat) (m : gn_M) (p1 : Nat) : Option (gn_M) := (f_X1_look n m p1).bind (fun x1 => (f_X1_chain n x1).bind (fun x2 => some x2))
set_option maxRecDepth 100000 in
set_option maxHeartbeats 4000000 in
theorem c_X1_survey {n : Nat} {m : gn_M} {p1 : Nat} {v : gn_M} (hp1 : gn_S[p1]? = some (.inl (0, 7))) (h : f_X1_survey n m p1 = some v) : gn_Cl yX1_survey cX1_survey 3 none 3 66 [.ref 8, .ref 7, .ref p1] m none v := by
  rw [f_X1_survey] at h
  refine gn_met (lv := [some (.ref 8), some (.ref 7), some (.ref p1)]) pl_X1 rfl rfl (Nat.le_of_ble_eq_true rfl) ?_
  refine gr_aload_n dX1_survey_0 rfl rfl ?_
  refine gr_aload_n dX1_survey_1 rfl rfl ?_
  refine gr_aload_n dX1_survey_2 rfl rfl ?_
  obtain ⟨x1, hx1, h⟩ := gn_bd h
  refine gc_V0 (c_X1_look hp1 hx1) my_X1_look mv_X1_look ob_8 ml_X1_37 rfl rfl ⟨Nat.le_of_ble_eq_true rfl, Nat.le_of_ble_eq_true rfl⟩ (Nat.le_of_ble_eq_true rfl) dX1_survey_3 (fun fx1 => ?_)
  refine gr_aload_n dX1_survey_6 rfl rfl ?_
  obtain ⟨x2, hx2, h⟩ := gn_bd h
  refine gc_V0 (c_X1_chain hx2) my_X1_chain mv_X1_chain ob_8 ml_X1_41 rfl rfl ⟨Nat.le_of_ble_eq_true rfl, Nat.le_of_ble_eq_true rfl⟩ (Nat.le_of_ble_eq_true rfl) dX1_survey_7 (fun fx2 => ?_)
  exact gq_retVM dX1_survey_10 trivial h
def f_X1_comesThrough (m : gn_M) (p0 : Int32) : Option (Int32) := (f_X1_within m p0).bind (fun x1 => (if x1 = 0 then some (0 : Int32) else (if p0 = 0 then some (1 : Int32) else gn_rd m 34 128 p0 (fun x2 => (if (x2 &&& (m.1 8 7)) = 0 then some (0 : Int32) else some (1 : Int32))))))
set_option maxRecDepth 100000 in
set_option maxHeartbeats 4000000 in
theorem c_X1_comesThrough {m : gn_M} {p0 : Int32} {v : Int32} (h : f_X1_comesThrough m p0 = some v) : gn_Cl yX1_comesThrough cX1_comesThrough 2 (some .boolean) 1 21 [.ref 8, .int p0] m (some (.int v)) m := by
  rw [f_X1_comesThrough] at h
  refine gn_met (lv := [some (.ref 8), some (.int p0)]) pl_X1 rfl rfl (Nat.le_of_ble_eq_true rfl) ?_
  refine gr_aload_n dX1_comesThrough_0 rfl rfl ?_
  refine gr_iload_n dX1_comesThrough_1 rfl rfl ?_
  obtain ⟨x1, hx1, h⟩ := gn_bd h
  refine gc_VI (c_X1_within hx1) my_X1_within mv_X1_within ob_8 ml_X1_73 rfl rfl ⟨Nat.le_of_ble_eq_true rfl, Nat.le_of_ble_eq_true rfl⟩ (Nat.le_of_ble_eq_true rfl) dX1_comesThrough_2 (fun fx1 => ?_)
  refine gr_if_eq (tgt := 30) dX1_comesThrough_5 (by decide) h (fun _ h => ?_) (fun _ h => ?_)
  · refine gr_iconst dX1_comesThrough_30 gk_i_0 ?_
    exact gq_retI dX1_comesThrough_31 rfl h
  · refine gr_iload_n dX1_comesThrough_8 rfl rfl ?_
    refine gr_if_eq (tgt := 26) dX1_comesThrough_9 (by decide) h (fun _ h => ?_) (fun _ h => ?_)
    · refine gr_iconst dX1_comesThrough_26 gk_i_1 ?_
      refine gr_goto (tgt := 31) dX1_comesThrough_27 (by decide) ?_
      exact gq_retI dX1_comesThrough_31 rfl h
    · refine gr_aload_n dX1_comesThrough_12 rfl rfl ?_
      refine gr_getR q_8_1 fl_X1_15 dX1_comesThrough_13 ?_
      refine gr_iload_n dX1_comesThrough_16 rfl rfl ?_
      refine gq_iaload s_34 dX1_comesThrough_17 h (fun x2 h => ?_)
      refine gr_aload_n dX1_comesThrough_18 rfl rfl ?_
      refine gr_getI q_8_7 fl_X1_34 dX1_comesThrough_19 ?_
      refine gr_iand dX1_comesThrough_22 ?_
      refine gr_if_eq (tgt := 30) dX1_comesThrough_23 (by decide) h (fun _ h => ?_) (fun _ h => ?_)
      · refine gr_iconst dX1_comesThrough_30 gk_i_0 ?_
        exact gq_retI dX1_comesThrough_31 rfl h
      · refine gr_iconst dX1_comesThrough_26 gk_i_1 ?_
        refine gr_goto (tgt := 31) dX1_comesThrough_27 (by decide) ?_
        exact gq_retI dX1_comesThrough_31 rfl h
def L_X1_bestWithoutOne_4 (n : Nat) (m : gn_M) (a1 : Int32) (k : Int32 → Option (Int32)) : Nat → Int32 → Int32 → Option (Int32)
  | 0, _, _ => none
  | f + 1, v2, v3 => (if v3 < (m.1 8 5) then (f_X3_isIn a1 v3).bind (fun x1 => (if x1 = 0 then L_X1_bestWithoutOne_4 n m a1 k f v2 (v3 + (1 : Int32)) else gn_rd m 35 128 (a1 &&& (((1 : Int32) <<< (v3 &&& 31)) ^^^ (-1 : Int32))) (fun x2 => L_X1_bestWithoutOne_4 n m a1 k f (if v2 < x2 then x2 else v2) (v3 + (1 : Int32))))) else k v2)
set_option maxRecDepth 100000 in
set_option maxHeartbeats 4000000 in
theorem l_X1_bestWithoutOne_4 {n : Nat} {m : gn_M} {a1 : Int32} {k : Int32 → Option (Int32)} {v : Int32} (hk : ∀ (e2 : Int32), k e2 = some v → gn_Go RX1 cX1_bestWithoutOne 4 1 21 (some .int) none 43 [none, none, some (.int e2), none] [] m (some (.int v)) m) : ∀ (f : Nat) (v2 : Int32) (v3 : Int32), L_X1_bestWithoutOne_4 n m a1 k f v2 v3 = some v → gn_Go RX1 cX1_bestWithoutOne 4 1 21 (some .int) none 4 [some (.ref 8), some (.int a1), some (.int v2), some (.int v3)] [] m (some (.int v)) m := by
  intro f
  induction f with
  | zero =>
    intro v2 v3 h
    cases h
  | succ f ih =>
    intro v2 v3 h
    rw [L_X1_bestWithoutOne_4] at h
    refine gr_iload_n dX1_bestWithoutOne_4 rfl rfl ?_
    refine gr_aload_n dX1_bestWithoutOne_5 rfl rfl ?_
    refine gr_getI q_8_5 fl_X1_27 dX1_bestWithoutOne_6 ?_
    refine gr_icmp_ge (tgt := 43) dX1_bestWithoutOne_9 (by decide) h (fun _ h => ?_) (fun _ h => ?_)
    · refine gr_iload_n dX1_bestWithoutOne_12 rfl rfl ?_
      refine gr_iload_n dX1_bestWithoutOne_13 rfl rfl ?_
      obtain ⟨x1, hx1, h⟩ := gn_bd h
      refine gc_SNI (c_X3_isIn hx1) my_X3_isIn ms_X3_isIn ml_X1_60 rfl rfl ⟨Nat.le_of_ble_eq_true rfl, Nat.le_of_ble_eq_true rfl⟩ (Nat.le_of_ble_eq_true rfl) dX1_bestWithoutOne_14 (fun fx1 => ?_)
      refine gr_if_eq (tgt := 37) dX1_bestWithoutOne_17 (by decide) h (fun _ h => ?_) (fun _ h => ?_)
      · refine gr_iinc (lv' := [some (.ref 8), some (.int a1), some (.int v2), some (.int (v3 + (1 : Int32)))]) dX1_bestWithoutOne_37 rfl gk_i_1 (by decide) rfl ?_
        refine gr_goto (tgt := 4) dX1_bestWithoutOne_40 (by decide) ?_
        exact ih _ _ h
      · refine gr_iload_n dX1_bestWithoutOne_20 rfl rfl ?_
        refine gr_aload_n dX1_bestWithoutOne_21 rfl rfl ?_
        refine gr_getR q_8_2 fl_X1_18 dX1_bestWithoutOne_22 ?_
        refine gr_iload_n dX1_bestWithoutOne_25 rfl rfl ?_
        refine gr_iconst dX1_bestWithoutOne_26 gk_i_1 ?_
        refine gr_iload_n dX1_bestWithoutOne_27 rfl rfl ?_
        refine gr_ishl dX1_bestWithoutOne_28 ?_
        refine gr_iconst dX1_bestWithoutOne_29 gk_i_m1 ?_
        refine gr_ixor dX1_bestWithoutOne_30 ?_
        refine gr_iand dX1_bestWithoutOne_31 ?_
        refine gq_iaload s_35 dX1_bestWithoutOne_32 h (fun x2 h => ?_)
        refine gr_max ml_X1_86 w_max ⟨Nat.le_of_ble_eq_true rfl, Nat.le_of_ble_eq_true rfl⟩ dX1_bestWithoutOne_33 ?_
        refine gr_istore_n (lv' := [some (.ref 8), some (.int a1), some (.int (if v2 < x2 then x2 else v2)), some (.int v3)]) dX1_bestWithoutOne_36 rfl (by decide) rfl ?_
        refine gr_iinc (lv' := [some (.ref 8), some (.int a1), some (.int (if v2 < x2 then x2 else v2)), some (.int (v3 + (1 : Int32)))]) dX1_bestWithoutOne_37 rfl gk_i_1 (by decide) rfl ?_
        refine gr_goto (tgt := 4) dX1_bestWithoutOne_40 (by decide) ?_
        exact ih _ _ h
    · refine gn_wkn [false, false, true, false] rfl ?_
      exact hk _ h
def f_X1_bestWithoutOne (n : Nat) (m : gn_M) (p0 : Int32) : Option (Int32) := L_X1_bestWithoutOne_4 n m p0 (fun (e3 : Int32) => some e3) n (0 : Int32) (0 : Int32)
set_option maxRecDepth 100000 in
set_option maxHeartbeats 4000000 in
theorem c_X1_bestWithoutOne {n : Nat} {m : gn_M} {p0 : Int32} {v : Int32} (h : f_X1_bestWithoutOne n m p0 = some v) : gn_Cl yX1_bestWithoutOne cX1_bestWithoutOne 4 (some .int) 1 21 [.ref 8, .int p0] m (some (.int v)) m := by
  rw [f_X1_bestWithoutOne] at h
  refine gn_met (lv := [some (.ref 8), some (.int p0), none, none]) pl_X1 rfl rfl (Nat.le_of_ble_eq_true rfl) ?_
  refine gr_iconst dX1_bestWithoutOne_0 gk_i_0 ?_
  refine gr_istore_n (lv' := [some (.ref 8), some (.int p0), some (.int (0 : Int32)), none]) dX1_bestWithoutOne_1 rfl (by decide) rfl ?_
  refine gr_iconst dX1_bestWithoutOne_2 gk_i_0 ?_
  refine gr_istore_n (lv' := [some (.ref 8), some (.int p0), some (.int (0 : Int32)), some (.int (0 : Int32))]) dX1_bestWithoutOne_3 rfl (by decide) rfl ?_
  refine l_X1_bestWithoutOne_4 (fun e3 h => ?_) _ _ _ h
  refine gr_iload_n dX1_bestWithoutOne_43 rfl rfl ?_
  exact gq_retI dX1_bestWithoutOne_44 rfl h
def L_X1_rank_9 (n : Nat) (k : gn_M → Option (gn_M)) : Nat → Int32 → gn_M → Option (gn_M)
  | 0, _, _ => none
  | f + 1, v1, m => (if (m.1 8 6) < v1 then k m else (f_X1_comesThrough m v1).bind (fun x2 => (if x2 = 0 then (f_X1_within m v1).bind (fun x3 => (if x3 = 0 then L_X1_rank_9 n k f (v1 + (1 : Int32)) m else (f_X1_bestWithoutOne n m v1).bind (fun x4 => gn_wr m 35 128 v1 x4 (fun m5 => L_X1_rank_9 n k f (v1 + (1 : Int32)) m5)))) else (f_J6_bitCount_0f7a4 v1).bind (fun x6 => gn_wr m 35 128 v1 x6 (fun m7 => L_X1_rank_9 n k f (v1 + (1 : Int32)) m7)))))
set_option maxRecDepth 100000 in
set_option maxHeartbeats 4000000 in
theorem l_X1_rank_9 {n : Nat} {k : gn_M → Option (gn_M)} {v : gn_M} (hk : ∀ (m1 : gn_M), k m1 = some v → gn_Go RX1 cX1_rank 2 2 44 none none 63 [none, none] [] m1 none v) : ∀ (f : Nat) (v1 : Int32) (m : gn_M), L_X1_rank_9 n k f v1 m = some v → gn_Go RX1 cX1_rank 2 2 44 none none 9 [some (.ref 8), some (.int v1)] [] m none v := by
  intro f
  induction f with
  | zero =>
    intro v1 m h
    cases h
  | succ f ih =>
    intro v1 m h
    rw [L_X1_rank_9] at h
    refine gr_iload_n dX1_rank_9 rfl rfl ?_
    refine gr_aload_n dX1_rank_10 rfl rfl ?_
    refine gr_getI q_8_6 fl_X1_31 dX1_rank_11 ?_
    refine gr_icmp_gt (tgt := 63) dX1_rank_14 (by decide) h (fun _ h => ?_) (fun _ h => ?_)
    · refine gn_wkn [false, false] rfl ?_
      exact hk _ h
    · refine gr_aload_n dX1_rank_17 rfl rfl ?_
      refine gr_iload_n dX1_rank_18 rfl rfl ?_
      obtain ⟨x2, hx2, h⟩ := gn_bd h
      refine gc_VI (c_X1_comesThrough hx2) my_X1_comesThrough mv_X1_comesThrough ob_8 ml_X1_80 rfl rfl ⟨Nat.le_of_ble_eq_true rfl, Nat.le_of_ble_eq_true rfl⟩ (Nat.le_of_ble_eq_true rfl) dX1_rank_19 (fun fx2 => ?_)
      refine gr_if_eq (tgt := 38) dX1_rank_22 (by decide) h (fun _ h => ?_) (fun _ h => ?_)
      · refine gr_aload_n dX1_rank_38 rfl rfl ?_
        refine gr_iload_n dX1_rank_39 rfl rfl ?_
        obtain ⟨x3, hx3, h⟩ := gn_bd h
        refine gc_VI (c_X1_within hx3) my_X1_within mv_X1_within ob_8 ml_X1_73 rfl rfl ⟨Nat.le_of_ble_eq_true rfl, Nat.le_of_ble_eq_true rfl⟩ (Nat.le_of_ble_eq_true rfl) dX1_rank_40 (fun fx3 => ?_)
        refine gr_if_eq (tgt := 57) dX1_rank_43 (by decide) h (fun _ h => ?_) (fun _ h => ?_)
        · refine gr_iinc (lv' := [some (.ref 8), some (.int (v1 + (1 : Int32)))]) dX1_rank_57 rfl gk_i_1 (by decide) rfl ?_
          refine gr_goto (tgt := 9) dX1_rank_60 (by decide) ?_
          exact ih _ _ h
        · refine gr_aload_n dX1_rank_46 rfl rfl ?_
          refine gr_getR q_8_2 fl_X1_18 dX1_rank_47 ?_
          refine gr_iload_n dX1_rank_50 rfl rfl ?_
          refine gr_aload_n dX1_rank_51 rfl rfl ?_
          refine gr_iload_n dX1_rank_52 rfl rfl ?_
          obtain ⟨x4, hx4, h⟩ := gn_bd h
          refine gc_VI (c_X1_bestWithoutOne hx4) my_X1_bestWithoutOne mv_X1_bestWithoutOne ob_8 ml_X1_83 rfl rfl ⟨Nat.le_of_ble_eq_true rfl, Nat.le_of_ble_eq_true rfl⟩ (Nat.le_of_ble_eq_true rfl) dX1_rank_53 (fun fx4 => ?_)
          refine gq_iastore s_35 dX1_rank_56 h (fun m5 h => ?_)
          refine gr_iinc (lv' := [some (.ref 8), some (.int (v1 + (1 : Int32)))]) dX1_rank_57 rfl gk_i_1 (by decide) rfl ?_
          refine gr_goto (tgt := 9) dX1_rank_60 (by decide) ?_
          exact ih _ _ h
      · refine gr_aload_n dX1_rank_25 rfl rfl ?_
        refine gr_getR q_8_2 fl_X1_18 dX1_rank_26 ?_
        refine gr_iload_n dX1_rank_29 rfl rfl ?_
        refine gr_iload_n dX1_rank_30 rfl rfl ?_
        obtain ⟨x6, hx6, h⟩ := gn_bd h
        refine gc_SI (c_J6_bitCount_0f7a4 hx6) my_J6_bitCount_0f7a4 ms_J6_bitCount_0f7a4 ml_X1_67 rfl rfl ⟨Nat.le_of_ble_eq_true rfl, Nat.le_of_ble_eq_true rfl⟩ (Nat.le_of_ble_eq_true rfl) dX1_rank_31 (fun fx6 => ?_)
        refine gq_iastore s_35 dX1_rank_34 h (fun m7 h => ?_)
        refine gr_goto (tgt := 57) dX1_rank_35 (by decide) ?_
        refine gr_iinc (lv' := [some (.ref 8), some (.int (v1 + (1 : Int32)))]) dX1_rank_57 rfl gk_i_1 (by decide) rfl ?_
        refine gr_goto (tgt := 9) dX1_rank_60 (by decide) ?_
        exact ih _ _ h
def f_X1_rank (n : Nat) (m : gn_M) : Option (gn_M) := gn_wr m 35 128 (0 : Int32) (0 : Int32) (fun m1 => L_X1_rank_9 n (fun (m8 : gn_M) => some m8) n (1 : Int32) m1)
set_option maxRecDepth 100000 in
set_option maxHeartbeats 4000000 in
theorem c_X1_rank {n : Nat} {m : gn_M} {v : gn_M} (h : f_X1_rank n m = some v) : gn_Cl yX1_rank cX1_rank 2 none 2 44 [.ref 8] m none v := by
  rw [f_X1_rank] at h
  refine gn_met (lv := [some (.ref 8), none]) pl_X1 rfl rfl (Nat.le_of_ble_eq_true rfl) ?_
  refine gr_aload_n dX1_rank_0 rfl rfl ?_
  refine gr_getR q_8_2 fl_X1_18 dX1_rank_1 ?_
  refine gr_iconst dX1_rank_4 gk_i_0 ?_
  refine gr_iconst dX1_rank_5 gk_i_0 ?_
  refine gq_iastore s_35 dX1_rank_6 h (fun m1 h => ?_)
  refine gr_iconst dX1_rank_7 gk_i_1 ?_
  refine gr_istore_n (lv' := [some (.ref 8), some (.int (1 : Int32))]) dX1_rank_8 rfl (by decide) rfl ?_
  refine l_X1_rank_9 (fun m8 h => ?_) _ _ _ h
  exact gq_retVM dX1_rank_63 trivial h
def L_X1_firstsOf_5 (n : Nat) (m : gn_M) (a1 : Int32) (a2 : Int32) (k : Int32 → Option (Int32)) : Nat → Int32 → Int32 → Option (Int32)
  | 0, _, _ => none
  | f + 1, v3, v4 => (if a1 < v4 then k v3 else (if (v4 &&& (a1 ^^^ (-1 : Int32))) = 0 then (f_J6_bitCount_0f7a4 v4).bind (fun x1 => (if x1 = a2 then gn_rd m 34 128 v4 (fun x2 => L_X1_firstsOf_5 n m a1 a2 k f (v3 ||| x2) (v4 + (1 : Int32))) else L_X1_firstsOf_5 n m a1 a2 k f v3 (v4 + (1 : Int32)))) else L_X1_firstsOf_5 n m a1 a2 k f v3 (v4 + (1 : Int32))))
set_option maxRecDepth 100000 in
set_option maxHeartbeats 4000000 in
theorem l_X1_firstsOf_5 {n : Nat} {m : gn_M} {a1 : Int32} {a2 : Int32} {k : Int32 → Option (Int32)} {v : Int32} (hk : ∀ (e3 : Int32), k e3 = some v → gn_Go RX1 cX1_firstsOf 5 1 20 (some .int) none 45 [none, none, none, some (.int e3), none] [] m (some (.int v)) m) : ∀ (f : Nat) (v3 : Int32) (v4 : Int32), L_X1_firstsOf_5 n m a1 a2 k f v3 v4 = some v → gn_Go RX1 cX1_firstsOf 5 1 20 (some .int) none 5 [some (.ref 8), some (.int a1), some (.int a2), some (.int v3), some (.int v4)] [] m (some (.int v)) m := by
  intro f
  induction f with
  | zero =>
    intro v3 v4 h
    cases h
  | succ f ih =>
    intro v3 v4 h
    rw [L_X1_firstsOf_5] at h
    refine gr_iload dX1_firstsOf_5 rfl ?_
    refine gr_iload_n dX1_firstsOf_7 rfl rfl ?_
    refine gr_icmp_gt (tgt := 45) dX1_firstsOf_8 (by decide) h (fun _ h => ?_) (fun _ h => ?_)
    · refine gn_wkn [false, false, false, true, false] rfl ?_
      exact hk _ h
    · refine gr_iload dX1_firstsOf_11 rfl ?_
      refine gr_iload_n dX1_firstsOf_13 rfl rfl ?_
      refine gr_iconst dX1_firstsOf_14 gk_i_m1 ?_
      refine gr_ixor dX1_firstsOf_15 ?_
      refine gr_iand dX1_firstsOf_16 ?_
      refine gr_if_ne (tgt := 39) dX1_firstsOf_17 (by decide) h (fun _ h => ?_) (fun _ h => ?_)
      · refine gr_iload dX1_firstsOf_20 rfl ?_
        obtain ⟨x1, hx1, h⟩ := gn_bd h
        refine gc_SI (c_J6_bitCount_0f7a4 hx1) my_J6_bitCount_0f7a4 ms_J6_bitCount_0f7a4 ml_X1_67 rfl rfl ⟨Nat.le_of_ble_eq_true rfl, Nat.le_of_ble_eq_true rfl⟩ (Nat.le_of_ble_eq_true rfl) dX1_firstsOf_22 (fun fx1 => ?_)
        refine gr_iload_n dX1_firstsOf_25 rfl rfl ?_
        refine gr_icmp_ne (tgt := 39) dX1_firstsOf_26 (by decide) h (fun _ h => ?_) (fun _ h => ?_)
        · refine gr_iload_n dX1_firstsOf_29 rfl rfl ?_
          refine gr_aload_n dX1_firstsOf_30 rfl rfl ?_
          refine gr_getR q_8_1 fl_X1_15 dX1_firstsOf_31 ?_
          refine gr_iload dX1_firstsOf_34 rfl ?_
          refine gq_iaload s_34 dX1_firstsOf_36 h (fun x2 h => ?_)
          refine gr_ior dX1_firstsOf_37 ?_
          refine gr_istore_n (lv' := [some (.ref 8), some (.int a1), some (.int a2), some (.int (v3 ||| x2)), some (.int v4)]) dX1_firstsOf_38 rfl (by decide) rfl ?_
          refine gr_iinc (lv' := [some (.ref 8), some (.int a1), some (.int a2), some (.int (v3 ||| x2)), some (.int (v4 + (1 : Int32)))]) dX1_firstsOf_39 rfl gk_i_1 (by decide) rfl ?_
          refine gr_goto (tgt := 5) dX1_firstsOf_42 (by decide) ?_
          exact ih _ _ h
        · refine gr_iinc (lv' := [some (.ref 8), some (.int a1), some (.int a2), some (.int v3), some (.int (v4 + (1 : Int32)))]) dX1_firstsOf_39 rfl gk_i_1 (by decide) rfl ?_
          refine gr_goto (tgt := 5) dX1_firstsOf_42 (by decide) ?_
          exact ih _ _ h
      · refine gr_iinc (lv' := [some (.ref 8), some (.int a1), some (.int a2), some (.int v3), some (.int (v4 + (1 : Int32)))]) dX1_firstsOf_39 rfl gk_i_1 (by decide) rfl ?_
        refine gr_goto (tgt := 5) dX1_firstsOf_42 (by decide) ?_
        exact ih _ _ h
def f_X1_firstsOf (n : Nat) (m : gn_M) (p0 : Int32) (p1 : Int32) : Option (Int32) := L_X1_firstsOf_5 n m p0 p1 (fun (e3 : Int32) => some e3) n (0 : Int32) (1 : Int32)
set_option maxRecDepth 100000 in
set_option maxHeartbeats 4000000 in
theorem c_X1_firstsOf {n : Nat} {m : gn_M} {p0 : Int32} {p1 : Int32} {v : Int32} (h : f_X1_firstsOf n m p0 p1 = some v) : gn_Cl yX1_firstsOf cX1_firstsOf 5 (some .int) 1 20 [.ref 8, .int p0, .int p1] m (some (.int v)) m := by
  rw [f_X1_firstsOf] at h
  refine gn_met (lv := [some (.ref 8), some (.int p0), some (.int p1), none, none]) pl_X1 rfl rfl (Nat.le_of_ble_eq_true rfl) ?_
  refine gr_iconst dX1_firstsOf_0 gk_i_0 ?_
  refine gr_istore_n (lv' := [some (.ref 8), some (.int p0), some (.int p1), some (.int (0 : Int32)), none]) dX1_firstsOf_1 rfl (by decide) rfl ?_
  refine gr_iconst dX1_firstsOf_2 gk_i_1 ?_
  refine gr_istore (lv' := [some (.ref 8), some (.int p0), some (.int p1), some (.int (0 : Int32)), some (.int (1 : Int32))]) dX1_firstsOf_3 (by decide) rfl ?_
  refine l_X1_firstsOf_5 (fun e3 h => ?_) _ _ _ h
  refine gr_iload_n dX1_firstsOf_45 rfl rfl ?_
  exact gq_retI dX1_firstsOf_46 rfl h
def f_J6_numberOfTrailingZeros_0f7a4 (p0 : Int32) : Option (Int32) := (if 0 < ((p0 ^^^ (-1 : Int32)) &&& (p0 - (1 : Int32))) then gn_jn (fun (j1 : Int32 × Int32) => gn_jn (fun (j3 : Int32 × Int32) => gn_jn (fun (j5 : Int32 × Int32) => (if (4 : Int32) < j5.1 then some ((j5.2 + (2 : Int32)) + ((j5.1.toUInt32 >>> ((2 : Int32).toUInt32 &&& Int32.toUInt32 31)).toInt32.toUInt32 >>> ((1 : Int32).toUInt32 &&& Int32.toUInt32 31)).toInt32) else some (j5.2 + (j5.1.toUInt32 >>> ((1 : Int32).toUInt32 &&& Int32.toUInt32 31)).toInt32))) (fun J6 => (if (16 : Int32) < j3.1 then J6 ((j3.1.toUInt32 >>> ((4 : Int32).toUInt32 &&& Int32.toUInt32 31)).toInt32, (j3.2 + (4 : Int32))) else J6 (j3.1, j3.2)))) (fun J4 => (if (256 : Int32) < j1.1 then J4 ((j1.1.toUInt32 >>> ((8 : Int32).toUInt32 &&& Int32.toUInt32 31)).toInt32, (j1.2 + (8 : Int32))) else J4 (j1.1, j1.2)))) (fun J2 => (if (65536 : Int32) < ((p0 ^^^ (-1 : Int32)) &&& (p0 - (1 : Int32))) then J2 ((((p0 ^^^ (-1 : Int32)) &&& (p0 - (1 : Int32))).toUInt32 >>> ((16 : Int32).toUInt32 &&& Int32.toUInt32 31)).toInt32, ((1 : Int32) + (16 : Int32))) else J2 (((p0 ^^^ (-1 : Int32)) &&& (p0 - (1 : Int32))), (1 : Int32)))) else some (((p0 ^^^ (-1 : Int32)) &&& (p0 - (1 : Int32))) &&& (32 : Int32)))
set_option maxRecDepth 100000 in
set_option maxHeartbeats 4000000 in
theorem c_J6_numberOfTrailingZeros_0f7a4 {m : gn_M} {p0 : Int32} {v : Int32} (h : f_J6_numberOfTrailingZeros_0f7a4 p0 = some v) : gn_Cl yJ6_numberOfTrailingZeros_0f7a4 cJ6_numberOfTrailingZeros_0f7a4 2 (some .int) 0 0 [.int p0] m (some (.int v)) m := by
  rw [f_J6_numberOfTrailingZeros_0f7a4] at h
  refine gn_met (lv := [some (.int p0), none]) pl_J6 rfl rfl (Nat.le_of_ble_eq_true rfl) ?_
  refine gr_iload_n dJ6_numberOfTrailingZeros_0f7a4_0 rfl rfl ?_
  refine gr_iconst dJ6_numberOfTrailingZeros_0f7a4_1 gk_i_m1 ?_
  refine gr_ixor dJ6_numberOfTrailingZeros_0f7a4_2 ?_
  refine gr_iload_n dJ6_numberOfTrailingZeros_0f7a4_3 rfl rfl ?_
  refine gr_iconst dJ6_numberOfTrailingZeros_0f7a4_4 gk_i_1 ?_
  refine gr_isub dJ6_numberOfTrailingZeros_0f7a4_5 ?_
  refine gr_iand dJ6_numberOfTrailingZeros_0f7a4_6 ?_
  refine gr_istore_n (lv' := [some (.int ((p0 ^^^ (-1 : Int32)) &&& (p0 - (1 : Int32)))), none]) dJ6_numberOfTrailingZeros_0f7a4_7 rfl (by decide) rfl ?_
  refine gr_iload_n dJ6_numberOfTrailingZeros_0f7a4_8 rfl rfl ?_
  refine gr_if_gt (tgt := 17) dJ6_numberOfTrailingZeros_0f7a4_9 (by decide) h (fun _ h => ?_) (fun _ h => ?_)
  · refine gr_iconst dJ6_numberOfTrailingZeros_0f7a4_17 gk_i_1 ?_
    refine gr_istore_n (lv' := [some (.int ((p0 ^^^ (-1 : Int32)) &&& (p0 - (1 : Int32)))), some (.int (1 : Int32))]) dJ6_numberOfTrailingZeros_0f7a4_18 rfl (by decide) rfl ?_
    refine gr_iload_n dJ6_numberOfTrailingZeros_0f7a4_19 rfl rfl ?_
    refine gr_ldcw kc_J6_264 dJ6_numberOfTrailingZeros_0f7a4_20 ?_
    refine gn_jnE (P := fun (j1 : Int32 × Int32) => gn_Go RJ6 cJ6_numberOfTrailingZeros_0f7a4 2 0 0 (some .int) none 34 [some (.int j1.1), some (.int j1.2)] [] m (some (.int v)) m) h (fun j1 h => ?_) (fun J2 hJ2 h => ?_)
    · refine gr_iload_n dJ6_numberOfTrailingZeros_0f7a4_34 rfl rfl ?_
      refine gr_sipush dJ6_numberOfTrailingZeros_0f7a4_35 gk_s_256 ?_
      refine gn_jnE (P := fun (j3 : Int32 × Int32) => gn_Go RJ6 cJ6_numberOfTrailingZeros_0f7a4 2 0 0 (some .int) none 49 [some (.int j3.1), some (.int j3.2)] [] m (some (.int v)) m) h (fun j3 h => ?_) (fun J4 hJ4 h => ?_)
      · refine gr_iload_n dJ6_numberOfTrailingZeros_0f7a4_49 rfl rfl ?_
        refine gr_bipush dJ6_numberOfTrailingZeros_0f7a4_50 gk_b_16 ?_
        refine gn_jnE (P := fun (j5 : Int32 × Int32) => gn_Go RJ6 cJ6_numberOfTrailingZeros_0f7a4 2 0 0 (some .int) none 62 [some (.int j5.1), some (.int j5.2)] [] m (some (.int v)) m) h (fun j5 h => ?_) (fun J6 hJ6 h => ?_)
        · refine gr_iload_n dJ6_numberOfTrailingZeros_0f7a4_62 rfl rfl ?_
          refine gr_iconst dJ6_numberOfTrailingZeros_0f7a4_63 gk_i_4 ?_
          refine gr_icmp_le (tgt := 74) dJ6_numberOfTrailingZeros_0f7a4_64 (by decide) h (fun _ h => ?_) (fun _ h => ?_)
          · refine gr_iinc (lv' := [some (.int j5.1), some (.int (j5.2 + (2 : Int32)))]) dJ6_numberOfTrailingZeros_0f7a4_67 rfl gk_i_2 (by decide) rfl ?_
            refine gr_iload_n dJ6_numberOfTrailingZeros_0f7a4_70 rfl rfl ?_
            refine gr_iconst dJ6_numberOfTrailingZeros_0f7a4_71 gk_i_2 ?_
            refine gr_iushr dJ6_numberOfTrailingZeros_0f7a4_72 ?_
            refine gr_istore_n (lv' := [some (.int (j5.1.toUInt32 >>> ((2 : Int32).toUInt32 &&& Int32.toUInt32 31)).toInt32), some (.int (j5.2 + (2 : Int32)))]) dJ6_numberOfTrailingZeros_0f7a4_73 rfl (by decide) rfl ?_
            refine gr_iload_n dJ6_numberOfTrailingZeros_0f7a4_74 rfl rfl ?_
            refine gr_iload_n dJ6_numberOfTrailingZeros_0f7a4_75 rfl rfl ?_
            refine gr_iconst dJ6_numberOfTrailingZeros_0f7a4_76 gk_i_1 ?_
            refine gr_iushr dJ6_numberOfTrailingZeros_0f7a4_77 ?_
            refine gr_iadd dJ6_numberOfTrailingZeros_0f7a4_78 ?_
            exact gq_retI dJ6_numberOfTrailingZeros_0f7a4_79 rfl h
          · refine gr_iload_n dJ6_numberOfTrailingZeros_0f7a4_74 rfl rfl ?_
            refine gr_iload_n dJ6_numberOfTrailingZeros_0f7a4_75 rfl rfl ?_
            refine gr_iconst dJ6_numberOfTrailingZeros_0f7a4_76 gk_i_1 ?_
            refine gr_iushr dJ6_numberOfTrailingZeros_0f7a4_77 ?_
            refine gr_iadd dJ6_numberOfTrailingZeros_0f7a4_78 ?_
            exact gq_retI dJ6_numberOfTrailingZeros_0f7a4_79 rfl h
        · refine gr_icmp_le (tgt := 62) dJ6_numberOfTrailingZeros_0f7a4_52 (by decide) h (fun _ h => ?_) (fun _ h => ?_)
          · refine gr_iinc (lv' := [some (.int j3.1), some (.int (j3.2 + (4 : Int32)))]) dJ6_numberOfTrailingZeros_0f7a4_55 rfl gk_i_4 (by decide) rfl ?_
            refine gr_iload_n dJ6_numberOfTrailingZeros_0f7a4_58 rfl rfl ?_
            refine gr_iconst dJ6_numberOfTrailingZeros_0f7a4_59 gk_i_4 ?_
            refine gr_iushr dJ6_numberOfTrailingZeros_0f7a4_60 ?_
            refine gr_istore_n (lv' := [some (.int (j3.1.toUInt32 >>> ((4 : Int32).toUInt32 &&& Int32.toUInt32 31)).toInt32), some (.int (j3.2 + (4 : Int32)))]) dJ6_numberOfTrailingZeros_0f7a4_61 rfl (by decide) rfl ?_
            exact hJ6 ((j3.1.toUInt32 >>> ((4 : Int32).toUInt32 &&& Int32.toUInt32 31)).toInt32, (j3.2 + (4 : Int32))) h
          · exact hJ6 (j3.1, j3.2) h
      · refine gr_icmp_le (tgt := 49) dJ6_numberOfTrailingZeros_0f7a4_38 (by decide) h (fun _ h => ?_) (fun _ h => ?_)
        · refine gr_iinc (lv' := [some (.int j1.1), some (.int (j1.2 + (8 : Int32)))]) dJ6_numberOfTrailingZeros_0f7a4_41 rfl gk_i_8 (by decide) rfl ?_
          refine gr_iload_n dJ6_numberOfTrailingZeros_0f7a4_44 rfl rfl ?_
          refine gr_bipush dJ6_numberOfTrailingZeros_0f7a4_45 gk_b_8 ?_
          refine gr_iushr dJ6_numberOfTrailingZeros_0f7a4_47 ?_
          refine gr_istore_n (lv' := [some (.int (j1.1.toUInt32 >>> ((8 : Int32).toUInt32 &&& Int32.toUInt32 31)).toInt32), some (.int (j1.2 + (8 : Int32)))]) dJ6_numberOfTrailingZeros_0f7a4_48 rfl (by decide) rfl ?_
          exact hJ4 ((j1.1.toUInt32 >>> ((8 : Int32).toUInt32 &&& Int32.toUInt32 31)).toInt32, (j1.2 + (8 : Int32))) h
        · exact hJ4 (j1.1, j1.2) h
    · refine gr_icmp_le (tgt := 34) dJ6_numberOfTrailingZeros_0f7a4_23 (by decide) h (fun _ h => ?_) (fun _ h => ?_)
      · refine gr_iinc (lv' := [some (.int ((p0 ^^^ (-1 : Int32)) &&& (p0 - (1 : Int32)))), some (.int ((1 : Int32) + (16 : Int32)))]) dJ6_numberOfTrailingZeros_0f7a4_26 rfl gk_i_16 (by decide) rfl ?_
        refine gr_iload_n dJ6_numberOfTrailingZeros_0f7a4_29 rfl rfl ?_
        refine gr_bipush dJ6_numberOfTrailingZeros_0f7a4_30 gk_b_16 ?_
        refine gr_iushr dJ6_numberOfTrailingZeros_0f7a4_32 ?_
        refine gr_istore_n (lv' := [some (.int (((p0 ^^^ (-1 : Int32)) &&& (p0 - (1 : Int32))).toUInt32 >>> ((16 : Int32).toUInt32 &&& Int32.toUInt32 31)).toInt32), some (.int ((1 : Int32) + (16 : Int32)))]) dJ6_numberOfTrailingZeros_0f7a4_33 rfl (by decide) rfl ?_
        exact hJ2 ((((p0 ^^^ (-1 : Int32)) &&& (p0 - (1 : Int32))).toUInt32 >>> ((16 : Int32).toUInt32 &&& Int32.toUInt32 31)).toInt32, ((1 : Int32) + (16 : Int32))) h
      · exact hJ2 (((p0 ^^^ (-1 : Int32)) &&& (p0 - (1 : Int32))), (1 : Int32)) h
  · refine gr_iload_n dJ6_numberOfTrailingZeros_0f7a4_12 rfl rfl ?_
    refine gr_bipush dJ6_numberOfTrailingZeros_0f7a4_13 gk_b_32 ?_
    refine gr_iand dJ6_numberOfTrailingZeros_0f7a4_15 ?_
    exact gq_retI dJ6_numberOfTrailingZeros_0f7a4_16 rfl h
