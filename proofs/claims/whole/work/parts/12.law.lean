def L_L_law_18 (L : Nat) (xs : Nat → Int32) (n : Nat) (k : gn_M → Option (Int32 × gn_M)) : Nat → Int32 → gn_M → Option (Int32 × gn_M)
  | 0, _, _ => none
  | f + 1, v3, m => (if ((Int32.ofNat L) - (6 : Int32)) < v3 then k m else gn_rx L xs v3 (fun x1 => (if (x1 &&& (63 : Int32)) = 0 then gn_rx L xs (v3 + (1 : Int32)) (fun x2 => gn_rx L xs (v3 + (2 : Int32)) (fun x3 => (f_X3_row n m x2 x3).bind (fun x4 => gn_rx L xs (v3 + (1 : Int32)) (fun x5 => gn_rx L xs (v3 + (2 : Int32)) (fun x6 => (f_X4_row n x4.2 x5 x6).bind (fun x7 => (if x4.1 = x7.1 then L_L_law_18 L xs n k f (v3 + (6 : Int32)) x7.2 else some ((0 : Int32), x7.2)))))))) else (if (x1 &&& (63 : Int32)) = 1 then gn_rx L xs (v3 + (1 : Int32)) (fun x8 => gn_rx L xs (v3 + (2 : Int32)) (fun x9 => gn_rx L xs (v3 + (3 : Int32)) (fun x10 => (f_X3_lay m x8 x9 x10).bind (fun x11 => gn_rx L xs (v3 + (1 : Int32)) (fun x12 => gn_rx L xs (v3 + (2 : Int32)) (fun x13 => gn_rx L xs (v3 + (3 : Int32)) (fun x14 => (f_X4_lay x11.2 x12 x13 x14).bind (fun x15 => (if x11.1 = x15.1 then L_L_law_18 L xs n k f (v3 + (6 : Int32)) x15.2 else some ((0 : Int32), x15.2)))))))))) else (if (x1 &&& (63 : Int32)) = 2 then gn_rx L xs (v3 + (1 : Int32)) (fun x16 => gn_rx L xs (v3 + (2 : Int32)) (fun x17 => (f_X3_at m x16 x17).bind (fun x18 => gn_rx L xs (v3 + (1 : Int32)) (fun x19 => gn_rx L xs (v3 + (2 : Int32)) (fun x20 => (f_X4_at x18.2 x19 x20).bind (fun x21 => (if x18.1 = x21.1 then L_L_law_18 L xs n k f (v3 + (6 : Int32)) x21.2 else some ((0 : Int32), x21.2)))))))) else (if (x1 &&& (63 : Int32)) = 3 then gn_rx L xs (v3 + (1 : Int32)) (fun x22 => (f_X3_tear m x22).bind (fun x23 => gn_rx L xs (v3 + (1 : Int32)) (fun x24 => (f_X4_tear x23.2 x24).bind (fun x25 => (if x23.1 = x25.1 then L_L_law_18 L xs n k f (v3 + (6 : Int32)) x25.2 else some ((0 : Int32), x25.2)))))) else (if (x1 &&& (63 : Int32)) = 4 then gn_rx L xs (v3 + (1 : Int32)) (fun x26 => gn_rx L xs (v3 + (2 : Int32)) (fun x27 => gn_rx L xs (v3 + (3 : Int32)) (fun x28 => gn_rx L xs (v3 + (4 : Int32)) (fun x29 => gn_rx L xs (v3 + (5 : Int32)) (fun x30 => (f_X3_copy m x26 x27 x28 x29 x30).bind (fun x31 => gn_rx L xs (v3 + (1 : Int32)) (fun x32 => gn_rx L xs (v3 + (2 : Int32)) (fun x33 => gn_rx L xs (v3 + (3 : Int32)) (fun x34 => gn_rx L xs (v3 + (4 : Int32)) (fun x35 => gn_rx L xs (v3 + (5 : Int32)) (fun x36 => (f_X4_copy n x31.2 x32 x33 x34 x35 x36).bind (fun x37 => (if x31.1 = x37.1 then L_L_law_18 L xs n k f (v3 + (6 : Int32)) x37.2 else some ((0 : Int32), x37.2)))))))))))))) else (if (x1 &&& (63 : Int32)) = 5 then gn_rx L xs (v3 + (1 : Int32)) (fun x38 => (f_X3_mean n m x38).bind (fun x39 => gn_rx L xs (v3 + (1 : Int32)) (fun x40 => (f_X4_mean n x39.2 x40).bind (fun x41 => (if x39.1 = x41.1 then L_L_law_18 L xs n k f (v3 + (6 : Int32)) x41.2 else some ((0 : Int32), x41.2)))))) else (if (x1 &&& (63 : Int32)) = 6 then gn_rx L xs (v3 + (1 : Int32)) (fun x42 => gn_rx L xs (v3 + (2 : Int32)) (fun x43 => (f_X3_text n m x42 x43).bind (fun x44 => gn_rx L xs (v3 + (1 : Int32)) (fun x45 => gn_rx L xs (v3 + (2 : Int32)) (fun x46 => (f_X4_text n x44.2 x45 x46).bind (fun x47 => (if x44.1 = x47.1 then L_L_law_18 L xs n k f (v3 + (6 : Int32)) x47.2 else some ((0 : Int32), x47.2)))))))) else (if (x1 &&& (63 : Int32)) = 7 then gn_rx L xs (v3 + (1 : Int32)) (fun x48 => gn_rx L xs (v3 + (2 : Int32)) (fun x49 => gn_rx L xs (v3 + (3 : Int32)) (fun x50 => (f_X3_put m x48 x49 x50).bind (fun x51 => gn_rx L xs (v3 + (1 : Int32)) (fun x52 => gn_rx L xs (v3 + (2 : Int32)) (fun x53 => gn_rx L xs (v3 + (3 : Int32)) (fun x54 => (f_X4_put x51.2 x52 x53 x54).bind (fun x55 => (if x51.1 = x55.1 then L_L_law_18 L xs n k f (v3 + (6 : Int32)) x55.2 else some ((0 : Int32), x55.2)))))))))) else (if (x1 &&& (63 : Int32)) = 8 then gn_rx L xs (v3 + (1 : Int32)) (fun x56 => (f_X3_fault n m x56).bind (fun x57 => gn_rx L xs (v3 + (1 : Int32)) (fun x58 => (f_X4_fault n x57.2 x58).bind (fun x59 => (if x57.1 = x59.1 then L_L_law_18 L xs n k f (v3 + (6 : Int32)) x59.2 else some ((0 : Int32), x59.2)))))) else (if (x1 &&& (63 : Int32)) = 9 then gn_rx L xs (v3 + (1 : Int32)) (fun x60 => (f_X3_gate n m x60).bind (fun x61 => gn_rx L xs (v3 + (1 : Int32)) (fun x62 => (f_X4_gate n x61.2 x62).bind (fun x63 => (if x61.1 = x63.1 then L_L_law_18 L xs n k f (v3 + (6 : Int32)) x63.2 else some ((0 : Int32), x63.2)))))) else (if (x1 &&& (63 : Int32)) = 10 then gn_rx L xs (v3 + (1 : Int32)) (fun x64 => gn_rx L xs (v3 + (2 : Int32)) (fun x65 => (f_X3_goer m x64 x65).bind (fun x66 => gn_rx L xs (v3 + (1 : Int32)) (fun x67 => gn_rx L xs (v3 + (2 : Int32)) (fun x68 => (f_X4_goer n x66.2 x67 x68).bind (fun x69 => (if x66.1 = x69.1 then L_L_law_18 L xs n k f (v3 + (6 : Int32)) x69.2 else some ((0 : Int32), x69.2)))))))) else (if (x1 &&& (63 : Int32)) = 11 then gn_rx L xs (v3 + (1 : Int32)) (fun x70 => gn_rx L xs (v3 + (2 : Int32)) (fun x71 => (f_X3_mark n m x70 x71).bind (fun x72 => gn_rx L xs (v3 + (1 : Int32)) (fun x73 => gn_rx L xs (v3 + (2 : Int32)) (fun x74 => (f_X4_mark n x72.2 x73 x74).bind (fun x75 => (if x72.1 = x75.1 then L_L_law_18 L xs n k f (v3 + (6 : Int32)) x75.2 else some ((0 : Int32), x75.2)))))))) else (if (x1 &&& (63 : Int32)) = 12 then gn_rx L xs (v3 + (1 : Int32)) (fun x76 => gn_rx L xs (v3 + (2 : Int32)) (fun x77 => (f_X3_tells m x76 x77).bind (fun x78 => gn_rx L xs (v3 + (1 : Int32)) (fun x79 => gn_rx L xs (v3 + (2 : Int32)) (fun x80 => (f_X4_tells m x79 x80).bind (fun x81 => (if x78 = x81 then L_L_law_18 L xs n k f (v3 + (6 : Int32)) m else some ((0 : Int32), m)))))))) else (if (x1 &&& (63 : Int32)) = 13 then gn_rx L xs (v3 + (1 : Int32)) (fun x82 => gn_rx L xs (v3 + (2 : Int32)) (fun x83 => (f_X3_meet n m x82 x83).bind (fun x84 => gn_rx L xs (v3 + (1 : Int32)) (fun x85 => gn_rx L xs (v3 + (2 : Int32)) (fun x86 => (f_X4_meet n x84.2 x85 x86).bind (fun x87 => (if x84.1 = x87.1 then L_L_law_18 L xs n k f (v3 + (6 : Int32)) x87.2 else some ((0 : Int32), x87.2)))))))) else (if (x1 &&& (63 : Int32)) = 14 then gn_rx L xs (v3 + (1 : Int32)) (fun x88 => (f_X3_card m x88).bind (fun x89 => gn_rx L xs (v3 + (1 : Int32)) (fun x90 => (f_X4_card n x89.2 x90).bind (fun x91 => (if x89.1 = x91.1 then L_L_law_18 L xs n k f (v3 + (6 : Int32)) x91.2 else some ((0 : Int32), x91.2)))))) else (if (x1 &&& (63 : Int32)) = 15 then gn_rx L xs (v3 + (1 : Int32)) (fun x92 => (f_X3_reads n m x92).bind (fun x93 => gn_rx L xs (v3 + (1 : Int32)) (fun x94 => (f_X4_reads n x93.2 x94).bind (fun x95 => (if x93.1 = x95.1 then L_L_law_18 L xs n k f (v3 + (6 : Int32)) x95.2 else some ((0 : Int32), x95.2)))))) else (if (x1 &&& (63 : Int32)) = 16 then gn_rx L xs (v3 + (1 : Int32)) (fun x96 => (f_X3_go m x96).bind (fun x97 => gn_rx L xs (v3 + (1 : Int32)) (fun x98 => (f_X4_go n x97.2 x98).bind (fun x99 => (if x97.1 = x99.1 then L_L_law_18 L xs n k f (v3 + (6 : Int32)) x99.2 else some ((0 : Int32), x99.2)))))) else (if (x1 &&& (63 : Int32)) = 17 then gn_rx L xs (v3 + (1 : Int32)) (fun x100 => (f_X3_undo n m x100).bind (fun x101 => gn_rx L xs (v3 + (1 : Int32)) (fun x102 => (f_X4_undo x101.2 x102).bind (fun x103 => (if x101.1 = x103.1 then L_L_law_18 L xs n k f (v3 + (6 : Int32)) x103.2 else some ((0 : Int32), x103.2)))))) else (if (x1 &&& (63 : Int32)) = 18 then gn_rx L xs (v3 + (1 : Int32)) (fun x104 => (f_X3_keep m x104).bind (fun x105 => gn_rx L xs (v3 + (1 : Int32)) (fun x106 => (f_X4_keep n x105.2 x106).bind (fun x107 => (if x105.1 = x107.1 then L_L_law_18 L xs n k f (v3 + (6 : Int32)) x107.2 else some ((0 : Int32), x107.2)))))) else (if (x1 &&& (63 : Int32)) = 19 then gn_rx L xs (v3 + (1 : Int32)) (fun x108 => (f_X3_on n m x108).bind (fun x109 => gn_rx L xs (v3 + (1 : Int32)) (fun x110 => (f_X4_on n x109.2 x110).bind (fun x111 => (if x109.1 = x111.1 then L_L_law_18 L xs n k f (v3 + (6 : Int32)) x111.2 else some ((0 : Int32), x111.2)))))) else (if (x1 &&& (63 : Int32)) = 20 then (f_X3_open n m).bind (fun x112 => (f_X4_open n x112.2).bind (fun x113 => (if x112.1 = x113.1 then L_L_law_18 L xs n k f (v3 + (6 : Int32)) x113.2 else some ((0 : Int32), x113.2)))) else (if (x1 &&& (63 : Int32)) = 21 then gn_rx L xs (v3 + (1 : Int32)) (fun x114 => (f_X3_most n m x114).bind (fun x115 => gn_rx L xs (v3 + (1 : Int32)) (fun x116 => (f_X4_most n x115.2 x116).bind (fun x117 => (if x115.1 = x117.1 then L_L_law_18 L xs n k f (v3 + (6 : Int32)) x117.2 else some ((0 : Int32), x117.2)))))) else (if (x1 &&& (63 : Int32)) = 22 then (f_X3_worth n m).bind (fun x118 => (f_X4_worth n x118.2).bind (fun x119 => (if x118.1 = x119.1 then L_L_law_18 L xs n k f (v3 + (6 : Int32)) x119.2 else some ((0 : Int32), x119.2)))) else (if (x1 &&& (63 : Int32)) = 23 then (f_X3_orders n m).bind (fun x120 => (f_X4_orders n x120.2).bind (fun x121 => (if x120.1 = x121.1 then L_L_law_18 L xs n k f (v3 + (6 : Int32)) x121.2 else some ((0 : Int32), x121.2)))) else (if (x1 &&& (63 : Int32)) = 24 then (f_X3_meetings n m).bind (fun x122 => (f_X4_meetings n x122.2).bind (fun x123 => (if x122.1 = x123.1 then L_L_law_18 L xs n k f (v3 + (6 : Int32)) x123.2 else some ((0 : Int32), x123.2)))) else (if (x1 &&& (63 : Int32)) = 25 then (f_X3_stone n m).bind (fun x124 => (f_X4_stone n x124.2).bind (fun x125 => (if x124.1 = x125.1 then L_L_law_18 L xs n k f (v3 + (6 : Int32)) x125.2 else some ((0 : Int32), x125.2)))) else (if (x1 &&& (63 : Int32)) = 26 then (f_X3_hold n m).bind (fun x126 => (f_X4_hold n x126.2).bind (fun x127 => (if x126.1 = x127.1 then L_L_law_18 L xs n k f (v3 + (6 : Int32)) x127.2 else some ((0 : Int32), x127.2)))) else (if (x1 &&& (63 : Int32)) = 27 then gn_rx L xs (v3 + (1 : Int32)) (fun x128 => (f_X3_last n m x128).bind (fun x129 => gn_rx L xs (v3 + (1 : Int32)) (fun x130 => (f_X4_last n m x130).bind (fun x131 => (if x129 = x131 then L_L_law_18 L xs n k f (v3 + (6 : Int32)) m else some ((0 : Int32), m)))))) else (if (x1 &&& (63 : Int32)) = 28 then gn_rx L xs (v3 + (1 : Int32)) (fun x132 => gn_rx L xs (v3 + (2 : Int32)) (fun x133 => (f_X3_kinds n m x132 x133).bind (fun x134 => gn_rx L xs (v3 + (1 : Int32)) (fun x135 => gn_rx L xs (v3 + (2 : Int32)) (fun x136 => (f_X4_kinds n x134.2 x135 x136).bind (fun x137 => (if x134.1 = x137.1 then L_L_law_18 L xs n k f (v3 + (6 : Int32)) x137.2 else some ((0 : Int32), x137.2)))))))) else (if (x1 &&& (63 : Int32)) = 29 then gn_rx L xs (v3 + (1 : Int32)) (fun x138 => gn_rx L xs (v3 + (2 : Int32)) (fun x139 => (f_X3_test n m x138 x139).bind (fun x140 => gn_rx L xs (v3 + (1 : Int32)) (fun x141 => gn_rx L xs (v3 + (2 : Int32)) (fun x142 => (f_X4_test n x140.2 x141 x142).bind (fun x143 => (if x140.1 = x143.1 then L_L_law_18 L xs n k f (v3 + (6 : Int32)) x143.2 else some ((0 : Int32), x143.2)))))))) else (if (x1 &&& (63 : Int32)) = 30 then (f_X3_duel n m).bind (fun x144 => (f_X4_duel n x144.2).bind (fun x145 => (if x144.1 = x145.1 then L_L_law_18 L xs n k f (v3 + (6 : Int32)) x145.2 else some ((0 : Int32), x145.2)))) else (if (x1 &&& (63 : Int32)) = 31 then gn_rx L xs (v3 + (1 : Int32)) (fun x146 => (f_X3_odds n m x146).bind (fun x147 => gn_rx L xs (v3 + (1 : Int32)) (fun x148 => (f_X4_odds n x147.2 x148).bind (fun x149 => (if x147.1 = x149.1 then L_L_law_18 L xs n k f (v3 + (6 : Int32)) x149.2 else some ((0 : Int32), x149.2)))))) else (if (x1 &&& (63 : Int32)) = 32 then gn_rx L xs (v3 + (1 : Int32)) (fun x150 => (f_X3_mid n m x150).bind (fun x151 => gn_rx L xs (v3 + (1 : Int32)) (fun x152 => (f_X4_mid n x151.2 x152).bind (fun x153 => (if x151.1 = x153.1 then L_L_law_18 L xs n k f (v3 + (6 : Int32)) x153.2 else some ((0 : Int32), x153.2)))))) else (if (x1 &&& (63 : Int32)) = 33 then gn_rx L xs (v3 + (1 : Int32)) (fun x154 => gn_rx L xs (v3 + (2 : Int32)) (fun x155 => (f_X3_lots n m x154 x155).bind (fun x156 => gn_rx L xs (v3 + (1 : Int32)) (fun x157 => gn_rx L xs (v3 + (2 : Int32)) (fun x158 => (f_X4_lots n x156.2 x157 x158).bind (fun x159 => (if x156.1 = x159.1 then L_L_law_18 L xs n k f (v3 + (6 : Int32)) x159.2 else some ((0 : Int32), x159.2)))))))) else (if (x1 &&& (63 : Int32)) = 34 then (f_X3_asked m).bind (fun x160 => (f_X4_asked m).bind (fun x161 => (if x160 = x161 then L_L_law_18 L xs n k f (v3 + (6 : Int32)) m else some ((0 : Int32), m)))) else (if (x1 &&& (63 : Int32)) = 35 then (f_X3_upper m).bind (fun x162 => (f_X4_upper m).bind (fun x163 => (if (lg_cmp x162 x163) = 0 then L_L_law_18 L xs n k f (v3 + (6 : Int32)) m else some ((0 : Int32), m)))) else (if (x1 &&& (63 : Int32)) = 36 then (f_X3_lower m).bind (fun x164 => (f_X4_lower m).bind (fun x165 => (if (lg_cmp x164 x165) = 0 then L_L_law_18 L xs n k f (v3 + (6 : Int32)) m else some ((0 : Int32), m)))) else (if (x1 &&& (63 : Int32)) = 37 then gn_rx L xs (v3 + (1 : Int32)) (fun x166 => (f_X3_count n m x166).bind (fun x167 => gn_rx L xs (v3 + (1 : Int32)) (fun x168 => (f_X4_count n m x168).bind (fun x169 => (if x167 = x169 then L_L_law_18 L xs n k f (v3 + (6 : Int32)) m else some ((0 : Int32), m)))))) else (if (x1 &&& (63 : Int32)) = 38 then (f_X3_finding m).bind (fun x170 => (f_X4_finding m).bind (fun x171 => (if x170 = x171 then L_L_law_18 L xs n k f (v3 + (6 : Int32)) m else some ((0 : Int32), m)))) else (if (x1 &&& (63 : Int32)) = 39 then gn_rx L xs (v3 + (1 : Int32)) (fun x172 => (f_X3_findings m x172).bind (fun x173 => gn_rx L xs (v3 + (1 : Int32)) (fun x174 => (f_X4_findings m x174).bind (fun x175 => (if x173 = x175 then L_L_law_18 L xs n k f (v3 + (6 : Int32)) m else some ((0 : Int32), m)))))) else (if (x1 &&& (63 : Int32)) = 40 then (f_X3_digest n m).bind (fun x176 => (f_X4_digest n m).bind (fun x177 => (if (lg_cmp x176 x177) = 0 then L_L_law_18 L xs n k f (v3 + (6 : Int32)) m else some ((0 : Int32), m)))) else L_L_law_18 L xs n k f (v3 + (6 : Int32)) m)))))))))))))))))))))))))))))))))))))))))))
set_option maxRecDepth 100000 in
set_option maxHeartbeats 4000000 in
theorem l_L_law_18 {L : Nat} {xs : Nat → Int32} {n : Nat} {k : gn_M → Option (Int32 × gn_M)} {v : Int32 × gn_M} (hk : ∀ (m1 : gn_M), k m1 = some v → gn_Go RL code 4 9 314 (some .boolean) (some (L, xs)) 1224 [none, none, none, none] [] m1 (some (.int v.1)) v.2) : ∀ (f : Nat) (v3 : Int32) (m : gn_M), L_L_law_18 L xs n k f v3 m = some v → gn_Go RL code 4 9 314 (some .boolean) (some (L, xs)) 18 [some (.ref 101), some (.ref 0), some (.ref 38), some (.int v3)] [] m (some (.int v.1)) v.2 := by
  intro f
  induction f with
  | zero =>
    intro v3 m h
    cases h
  | succ f ih =>
    intro v3 m h
    rw [L_L_law_18] at h
    refine gr_iload_n dL_law_18 rfl rfl ?_
    refine gr_aload_n dL_law_19 rfl rfl ?_
    refine gr_scriptLen dL_law_20 ?_
    refine gr_bipush dL_law_21 gk_b_6 ?_
    refine gr_isub dL_law_23 ?_
    refine gr_icmp_gt (tgt := 1224) dL_law_24 (by decide) h (fun _ h => ?_) (fun _ h => ?_)
    · refine gn_wkn [false, false, false, false] rfl ?_
      exact hk _ h
    · refine gr_aload_n dL_law_27 rfl rfl ?_
      refine gr_iload_n dL_law_28 rfl rfl ?_
      refine gq_script dL_law_29 h (fun x1 h => ?_)
      refine gr_bipush dL_law_30 gk_b_63 ?_
      refine gr_iand dL_law_32 ?_
      refine gn_sw h (fun hs0 h => ?_) (fun hs0 h => ?_)
      · refine gr_tsIn (tgt := 212) dL_law_33 hs0 (by decide) (by decide) rfl (by decide) ?_
        refine gr_aload_n dL_law_212 rfl rfl ?_
        refine gr_aload_n dL_law_213 rfl rfl ?_
        refine gr_iload_n dL_law_214 rfl rfl ?_
        refine gr_iconst dL_law_215 gk_i_1 ?_
        refine gr_iadd dL_law_216 ?_
        refine gq_script dL_law_217 h (fun x2 h => ?_)
        refine gr_aload_n dL_law_218 rfl rfl ?_
        refine gr_iload_n dL_law_219 rfl rfl ?_
        refine gr_iconst dL_law_220 gk_i_2 ?_
        refine gr_iadd dL_law_221 ?_
        refine gq_script dL_law_222 h (fun x3 h => ?_)
        obtain ⟨x4, hx4, h⟩ := gn_bd h
        refine gc_VI (c_X3_row hx4) my_X3_row mv_X3_row ob_0 ml_L_13 rfl rfl ⟨Nat.le_of_ble_eq_true rfl, Nat.le_of_ble_eq_true rfl⟩ (Nat.le_of_ble_eq_true rfl) dL_law_223 (fun fx4 => ?_)
        refine gr_aload_n dL_law_226 rfl rfl ?_
        refine gr_aload_n dL_law_227 rfl rfl ?_
        refine gr_iload_n dL_law_228 rfl rfl ?_
        refine gr_iconst dL_law_229 gk_i_1 ?_
        refine gr_iadd dL_law_230 ?_
        refine gq_script dL_law_231 h (fun x5 h => ?_)
        refine gr_aload_n dL_law_232 rfl rfl ?_
        refine gr_iload_n dL_law_233 rfl rfl ?_
        refine gr_iconst dL_law_234 gk_i_2 ?_
        refine gr_iadd dL_law_235 ?_
        refine gq_script dL_law_236 h (fun x6 h => ?_)
        obtain ⟨x7, hx7, h⟩ := gn_bd h
        refine gc_VI (c_X4_row hx7) my_X4_row mv_X4_row ob_38 ml_L_17 rfl rfl ⟨Nat.le_of_ble_eq_true rfl, Nat.le_of_ble_eq_true rfl⟩ (Nat.le_of_ble_eq_true rfl) dL_law_237 (fun fx7 => ?_)
        refine gr_icmp_eq (tgt := 1218) dL_law_240 (by decide) h (fun _ h => ?_) (fun _ h => ?_)
        · refine gr_iinc (lv' := [some (.ref 101), some (.ref 0), some (.ref 38), some (.int (v3 + (6 : Int32)))]) dL_law_1218 rfl gk_i_6 (by decide) rfl ?_
          refine gr_goto (tgt := 18) dL_law_1221 (by decide) ?_
          exact ih _ _ h
        · refine gr_iconst dL_law_243 gk_i_0 ?_
          exact gq_retIM dL_law_244 rfl h
      refine gn_sw h (fun hs1 h => ?_) (fun hs1 h => ?_)
      · refine gr_tsIn (tgt := 245) dL_law_33 hs1 (by decide) (by decide) rfl (by decide) ?_
        refine gr_aload_n dL_law_245 rfl rfl ?_
        refine gr_aload_n dL_law_246 rfl rfl ?_
        refine gr_iload_n dL_law_247 rfl rfl ?_
        refine gr_iconst dL_law_248 gk_i_1 ?_
        refine gr_iadd dL_law_249 ?_
        refine gq_script dL_law_250 h (fun x8 h => ?_)
        refine gr_aload_n dL_law_251 rfl rfl ?_
        refine gr_iload_n dL_law_252 rfl rfl ?_
        refine gr_iconst dL_law_253 gk_i_2 ?_
        refine gr_iadd dL_law_254 ?_
        refine gq_script dL_law_255 h (fun x9 h => ?_)
        refine gr_aload_n dL_law_256 rfl rfl ?_
        refine gr_iload_n dL_law_257 rfl rfl ?_
        refine gr_iconst dL_law_258 gk_i_3 ?_
        refine gr_iadd dL_law_259 ?_
        refine gq_script dL_law_260 h (fun x10 h => ?_)
        obtain ⟨x11, hx11, h⟩ := gn_bd h
        refine gc_VI (c_X3_lay hx11) my_X3_lay mv_X3_lay ob_0 ml_L_18 rfl rfl ⟨Nat.le_of_ble_eq_true rfl, Nat.le_of_ble_eq_true rfl⟩ (Nat.le_of_ble_eq_true rfl) dL_law_261 (fun fx11 => ?_)
        refine gr_aload_n dL_law_264 rfl rfl ?_
        refine gr_aload_n dL_law_265 rfl rfl ?_
        refine gr_iload_n dL_law_266 rfl rfl ?_
        refine gr_iconst dL_law_267 gk_i_1 ?_
        refine gr_iadd dL_law_268 ?_
        refine gq_script dL_law_269 h (fun x12 h => ?_)
        refine gr_aload_n dL_law_270 rfl rfl ?_
        refine gr_iload_n dL_law_271 rfl rfl ?_
        refine gr_iconst dL_law_272 gk_i_2 ?_
        refine gr_iadd dL_law_273 ?_
        refine gq_script dL_law_274 h (fun x13 h => ?_)
        refine gr_aload_n dL_law_275 rfl rfl ?_
        refine gr_iload_n dL_law_276 rfl rfl ?_
        refine gr_iconst dL_law_277 gk_i_3 ?_
        refine gr_iadd dL_law_278 ?_
        refine gq_script dL_law_279 h (fun x14 h => ?_)
        obtain ⟨x15, hx15, h⟩ := gn_bd h
        refine gc_VI (c_X4_lay hx15) my_X4_lay mv_X4_lay ob_38 ml_L_22 rfl rfl ⟨Nat.le_of_ble_eq_true rfl, Nat.le_of_ble_eq_true rfl⟩ (Nat.le_of_ble_eq_true rfl) dL_law_280 (fun fx15 => ?_)
        refine gr_icmp_eq (tgt := 1218) dL_law_283 (by decide) h (fun _ h => ?_) (fun _ h => ?_)
        · refine gr_iinc (lv' := [some (.ref 101), some (.ref 0), some (.ref 38), some (.int (v3 + (6 : Int32)))]) dL_law_1218 rfl gk_i_6 (by decide) rfl ?_
          refine gr_goto (tgt := 18) dL_law_1221 (by decide) ?_
          exact ih _ _ h
        · refine gr_iconst dL_law_286 gk_i_0 ?_
          exact gq_retIM dL_law_287 rfl h
      refine gn_sw h (fun hs2 h => ?_) (fun hs2 h => ?_)
      · refine gr_tsIn (tgt := 288) dL_law_33 hs2 (by decide) (by decide) rfl (by decide) ?_
        refine gr_aload_n dL_law_288 rfl rfl ?_
        refine gr_aload_n dL_law_289 rfl rfl ?_
        refine gr_iload_n dL_law_290 rfl rfl ?_
        refine gr_iconst dL_law_291 gk_i_1 ?_
        refine gr_iadd dL_law_292 ?_
        refine gq_script dL_law_293 h (fun x16 h => ?_)
        refine gr_aload_n dL_law_294 rfl rfl ?_
        refine gr_iload_n dL_law_295 rfl rfl ?_
        refine gr_iconst dL_law_296 gk_i_2 ?_
        refine gr_iadd dL_law_297 ?_
        refine gq_script dL_law_298 h (fun x17 h => ?_)
        obtain ⟨x18, hx18, h⟩ := gn_bd h
        refine gc_VI (c_X3_at hx18) my_X3_at mv_X3_at ob_0 ml_L_23 rfl rfl ⟨Nat.le_of_ble_eq_true rfl, Nat.le_of_ble_eq_true rfl⟩ (Nat.le_of_ble_eq_true rfl) dL_law_299 (fun fx18 => ?_)
        refine gr_aload_n dL_law_302 rfl rfl ?_
        refine gr_aload_n dL_law_303 rfl rfl ?_
        refine gr_iload_n dL_law_304 rfl rfl ?_
        refine gr_iconst dL_law_305 gk_i_1 ?_
        refine gr_iadd dL_law_306 ?_
        refine gq_script dL_law_307 h (fun x19 h => ?_)
        refine gr_aload_n dL_law_308 rfl rfl ?_
        refine gr_iload_n dL_law_309 rfl rfl ?_
        refine gr_iconst dL_law_310 gk_i_2 ?_
        refine gr_iadd dL_law_311 ?_
        refine gq_script dL_law_312 h (fun x20 h => ?_)
        obtain ⟨x21, hx21, h⟩ := gn_bd h
        refine gc_VI (c_X4_at hx21) my_X4_at mv_X4_at ob_38 ml_L_26 rfl rfl ⟨Nat.le_of_ble_eq_true rfl, Nat.le_of_ble_eq_true rfl⟩ (Nat.le_of_ble_eq_true rfl) dL_law_313 (fun fx21 => ?_)
        refine gr_icmp_eq (tgt := 1218) dL_law_316 (by decide) h (fun _ h => ?_) (fun _ h => ?_)
        · refine gr_iinc (lv' := [some (.ref 101), some (.ref 0), some (.ref 38), some (.int (v3 + (6 : Int32)))]) dL_law_1218 rfl gk_i_6 (by decide) rfl ?_
          refine gr_goto (tgt := 18) dL_law_1221 (by decide) ?_
          exact ih _ _ h
        · refine gr_iconst dL_law_319 gk_i_0 ?_
          exact gq_retIM dL_law_320 rfl h
      refine gn_sw h (fun hs3 h => ?_) (fun hs3 h => ?_)
      · refine gr_tsIn (tgt := 321) dL_law_33 hs3 (by decide) (by decide) rfl (by decide) ?_
        refine gr_aload_n dL_law_321 rfl rfl ?_
        refine gr_aload_n dL_law_322 rfl rfl ?_
        refine gr_iload_n dL_law_323 rfl rfl ?_
        refine gr_iconst dL_law_324 gk_i_1 ?_
        refine gr_iadd dL_law_325 ?_
        refine gq_script dL_law_326 h (fun x22 h => ?_)
        obtain ⟨x23, hx23, h⟩ := gn_bd h
        refine gc_VI (c_X3_tear hx23) my_X3_tear mv_X3_tear ob_0 ml_L_27 rfl rfl ⟨Nat.le_of_ble_eq_true rfl, Nat.le_of_ble_eq_true rfl⟩ (Nat.le_of_ble_eq_true rfl) dL_law_327 (fun fx23 => ?_)
        refine gr_aload_n dL_law_330 rfl rfl ?_
        refine gr_aload_n dL_law_331 rfl rfl ?_
        refine gr_iload_n dL_law_332 rfl rfl ?_
        refine gr_iconst dL_law_333 gk_i_1 ?_
        refine gr_iadd dL_law_334 ?_
        refine gq_script dL_law_335 h (fun x24 h => ?_)
        obtain ⟨x25, hx25, h⟩ := gn_bd h
        refine gc_VI (c_X4_tear hx25) my_X4_tear mv_X4_tear ob_38 ml_L_31 rfl rfl ⟨Nat.le_of_ble_eq_true rfl, Nat.le_of_ble_eq_true rfl⟩ (Nat.le_of_ble_eq_true rfl) dL_law_336 (fun fx25 => ?_)
        refine gr_icmp_eq (tgt := 1218) dL_law_339 (by decide) h (fun _ h => ?_) (fun _ h => ?_)
        · refine gr_iinc (lv' := [some (.ref 101), some (.ref 0), some (.ref 38), some (.int (v3 + (6 : Int32)))]) dL_law_1218 rfl gk_i_6 (by decide) rfl ?_
          refine gr_goto (tgt := 18) dL_law_1221 (by decide) ?_
          exact ih _ _ h
        · refine gr_iconst dL_law_342 gk_i_0 ?_
          exact gq_retIM dL_law_343 rfl h
      refine gn_sw h (fun hs4 h => ?_) (fun hs4 h => ?_)
      · refine gr_tsIn (tgt := 344) dL_law_33 hs4 (by decide) (by decide) rfl (by decide) ?_
        refine gr_aload_n dL_law_344 rfl rfl ?_
        refine gr_aload_n dL_law_345 rfl rfl ?_
        refine gr_iload_n dL_law_346 rfl rfl ?_
        refine gr_iconst dL_law_347 gk_i_1 ?_
        refine gr_iadd dL_law_348 ?_
        refine gq_script dL_law_349 h (fun x26 h => ?_)
        refine gr_aload_n dL_law_350 rfl rfl ?_
        refine gr_iload_n dL_law_351 rfl rfl ?_
        refine gr_iconst dL_law_352 gk_i_2 ?_
        refine gr_iadd dL_law_353 ?_
        refine gq_script dL_law_354 h (fun x27 h => ?_)
        refine gr_aload_n dL_law_355 rfl rfl ?_
        refine gr_iload_n dL_law_356 rfl rfl ?_
        refine gr_iconst dL_law_357 gk_i_3 ?_
        refine gr_iadd dL_law_358 ?_
        refine gq_script dL_law_359 h (fun x28 h => ?_)
        refine gr_aload_n dL_law_360 rfl rfl ?_
        refine gr_iload_n dL_law_361 rfl rfl ?_
        refine gr_iconst dL_law_362 gk_i_4 ?_
        refine gr_iadd dL_law_363 ?_
        refine gq_script dL_law_364 h (fun x29 h => ?_)
        refine gr_aload_n dL_law_365 rfl rfl ?_
        refine gr_iload_n dL_law_366 rfl rfl ?_
        refine gr_iconst dL_law_367 gk_i_5 ?_
        refine gr_iadd dL_law_368 ?_
        refine gq_script dL_law_369 h (fun x30 h => ?_)
        obtain ⟨x31, hx31, h⟩ := gn_bd h
        refine gc_VI (c_X3_copy hx31) my_X3_copy mv_X3_copy ob_0 ml_L_32 rfl rfl ⟨Nat.le_of_ble_eq_true rfl, Nat.le_of_ble_eq_true rfl⟩ (Nat.le_of_ble_eq_true rfl) dL_law_370 (fun fx31 => ?_)
        refine gr_aload_n dL_law_373 rfl rfl ?_
        refine gr_aload_n dL_law_374 rfl rfl ?_
        refine gr_iload_n dL_law_375 rfl rfl ?_
        refine gr_iconst dL_law_376 gk_i_1 ?_
        refine gr_iadd dL_law_377 ?_
        refine gq_script dL_law_378 h (fun x32 h => ?_)
        refine gr_aload_n dL_law_379 rfl rfl ?_
        refine gr_iload_n dL_law_380 rfl rfl ?_
        refine gr_iconst dL_law_381 gk_i_2 ?_
        refine gr_iadd dL_law_382 ?_
        refine gq_script dL_law_383 h (fun x33 h => ?_)
        refine gr_aload_n dL_law_384 rfl rfl ?_
        refine gr_iload_n dL_law_385 rfl rfl ?_
        refine gr_iconst dL_law_386 gk_i_3 ?_
        refine gr_iadd dL_law_387 ?_
        refine gq_script dL_law_388 h (fun x34 h => ?_)
        refine gr_aload_n dL_law_389 rfl rfl ?_
        refine gr_iload_n dL_law_390 rfl rfl ?_
        refine gr_iconst dL_law_391 gk_i_4 ?_
        refine gr_iadd dL_law_392 ?_
        refine gq_script dL_law_393 h (fun x35 h => ?_)
        refine gr_aload_n dL_law_394 rfl rfl ?_
        refine gr_iload_n dL_law_395 rfl rfl ?_
        refine gr_iconst dL_law_396 gk_i_5 ?_
        refine gr_iadd dL_law_397 ?_
        refine gq_script dL_law_398 h (fun x36 h => ?_)
        obtain ⟨x37, hx37, h⟩ := gn_bd h
        refine gc_VI (c_X4_copy hx37) my_X4_copy mv_X4_copy ob_38 ml_L_36 rfl rfl ⟨Nat.le_of_ble_eq_true rfl, Nat.le_of_ble_eq_true rfl⟩ (Nat.le_of_ble_eq_true rfl) dL_law_399 (fun fx37 => ?_)
        refine gr_icmp_eq (tgt := 1218) dL_law_402 (by decide) h (fun _ h => ?_) (fun _ h => ?_)
        · refine gr_iinc (lv' := [some (.ref 101), some (.ref 0), some (.ref 38), some (.int (v3 + (6 : Int32)))]) dL_law_1218 rfl gk_i_6 (by decide) rfl ?_
          refine gr_goto (tgt := 18) dL_law_1221 (by decide) ?_
          exact ih _ _ h
        · refine gr_iconst dL_law_405 gk_i_0 ?_
          exact gq_retIM dL_law_406 rfl h
      refine gn_sw h (fun hs5 h => ?_) (fun hs5 h => ?_)
      · refine gr_tsIn (tgt := 407) dL_law_33 hs5 (by decide) (by decide) rfl (by decide) ?_
        refine gr_aload_n dL_law_407 rfl rfl ?_
        refine gr_aload_n dL_law_408 rfl rfl ?_
        refine gr_iload_n dL_law_409 rfl rfl ?_
        refine gr_iconst dL_law_410 gk_i_1 ?_
        refine gr_iadd dL_law_411 ?_
        refine gq_script dL_law_412 h (fun x38 h => ?_)
        obtain ⟨x39, hx39, h⟩ := gn_bd h
        refine gc_VI (c_X3_mean hx39) my_X3_mean mv_X3_mean ob_0 ml_L_37 rfl rfl ⟨Nat.le_of_ble_eq_true rfl, Nat.le_of_ble_eq_true rfl⟩ (Nat.le_of_ble_eq_true rfl) dL_law_413 (fun fx39 => ?_)
        refine gr_aload_n dL_law_416 rfl rfl ?_
        refine gr_aload_n dL_law_417 rfl rfl ?_
        refine gr_iload_n dL_law_418 rfl rfl ?_
        refine gr_iconst dL_law_419 gk_i_1 ?_
        refine gr_iadd dL_law_420 ?_
        refine gq_script dL_law_421 h (fun x40 h => ?_)
        obtain ⟨x41, hx41, h⟩ := gn_bd h
        refine gc_VI (c_X4_mean hx41) my_X4_mean mv_X4_mean ob_38 ml_L_40 rfl rfl ⟨Nat.le_of_ble_eq_true rfl, Nat.le_of_ble_eq_true rfl⟩ (Nat.le_of_ble_eq_true rfl) dL_law_422 (fun fx41 => ?_)
        refine gr_icmp_eq (tgt := 1218) dL_law_425 (by decide) h (fun _ h => ?_) (fun _ h => ?_)
        · refine gr_iinc (lv' := [some (.ref 101), some (.ref 0), some (.ref 38), some (.int (v3 + (6 : Int32)))]) dL_law_1218 rfl gk_i_6 (by decide) rfl ?_
          refine gr_goto (tgt := 18) dL_law_1221 (by decide) ?_
          exact ih _ _ h
        · refine gr_iconst dL_law_428 gk_i_0 ?_
          exact gq_retIM dL_law_429 rfl h
      refine gn_sw h (fun hs6 h => ?_) (fun hs6 h => ?_)
      · refine gr_tsIn (tgt := 430) dL_law_33 hs6 (by decide) (by decide) rfl (by decide) ?_
        refine gr_aload_n dL_law_430 rfl rfl ?_
        refine gr_aload_n dL_law_431 rfl rfl ?_
        refine gr_iload_n dL_law_432 rfl rfl ?_
        refine gr_iconst dL_law_433 gk_i_1 ?_
        refine gr_iadd dL_law_434 ?_
        refine gq_script dL_law_435 h (fun x42 h => ?_)
        refine gr_aload_n dL_law_436 rfl rfl ?_
        refine gr_iload_n dL_law_437 rfl rfl ?_
        refine gr_iconst dL_law_438 gk_i_2 ?_
        refine gr_iadd dL_law_439 ?_
        refine gq_script dL_law_440 h (fun x43 h => ?_)
        obtain ⟨x44, hx44, h⟩ := gn_bd h
        refine gc_VI (c_X3_text hx44) my_X3_text mv_X3_text ob_0 ml_L_41 rfl rfl ⟨Nat.le_of_ble_eq_true rfl, Nat.le_of_ble_eq_true rfl⟩ (Nat.le_of_ble_eq_true rfl) dL_law_441 (fun fx44 => ?_)
        refine gr_aload_n dL_law_444 rfl rfl ?_
        refine gr_aload_n dL_law_445 rfl rfl ?_
        refine gr_iload_n dL_law_446 rfl rfl ?_
        refine gr_iconst dL_law_447 gk_i_1 ?_
        refine gr_iadd dL_law_448 ?_
        refine gq_script dL_law_449 h (fun x45 h => ?_)
        refine gr_aload_n dL_law_450 rfl rfl ?_
        refine gr_iload_n dL_law_451 rfl rfl ?_
        refine gr_iconst dL_law_452 gk_i_2 ?_
        refine gr_iadd dL_law_453 ?_
        refine gq_script dL_law_454 h (fun x46 h => ?_)
        obtain ⟨x47, hx47, h⟩ := gn_bd h
        refine gc_VI (c_X4_text hx47) my_X4_text mv_X4_text ob_38 ml_L_44 rfl rfl ⟨Nat.le_of_ble_eq_true rfl, Nat.le_of_ble_eq_true rfl⟩ (Nat.le_of_ble_eq_true rfl) dL_law_455 (fun fx47 => ?_)
        refine gr_icmp_eq (tgt := 1218) dL_law_458 (by decide) h (fun _ h => ?_) (fun _ h => ?_)
        · refine gr_iinc (lv' := [some (.ref 101), some (.ref 0), some (.ref 38), some (.int (v3 + (6 : Int32)))]) dL_law_1218 rfl gk_i_6 (by decide) rfl ?_
          refine gr_goto (tgt := 18) dL_law_1221 (by decide) ?_
          exact ih _ _ h
        · refine gr_iconst dL_law_461 gk_i_0 ?_
          exact gq_retIM dL_law_462 rfl h
      refine gn_sw h (fun hs7 h => ?_) (fun hs7 h => ?_)
      · refine gr_tsIn (tgt := 463) dL_law_33 hs7 (by decide) (by decide) rfl (by decide) ?_
        refine gr_aload_n dL_law_463 rfl rfl ?_
        refine gr_aload_n dL_law_464 rfl rfl ?_
        refine gr_iload_n dL_law_465 rfl rfl ?_
        refine gr_iconst dL_law_466 gk_i_1 ?_
        refine gr_iadd dL_law_467 ?_
        refine gq_script dL_law_468 h (fun x48 h => ?_)
        refine gr_aload_n dL_law_469 rfl rfl ?_
        refine gr_iload_n dL_law_470 rfl rfl ?_
        refine gr_iconst dL_law_471 gk_i_2 ?_
        refine gr_iadd dL_law_472 ?_
        refine gq_script dL_law_473 h (fun x49 h => ?_)
        refine gr_aload_n dL_law_474 rfl rfl ?_
        refine gr_iload_n dL_law_475 rfl rfl ?_
        refine gr_iconst dL_law_476 gk_i_3 ?_
        refine gr_iadd dL_law_477 ?_
        refine gq_script dL_law_478 h (fun x50 h => ?_)
        obtain ⟨x51, hx51, h⟩ := gn_bd h
        refine gc_VI (c_X3_put hx51) my_X3_put mv_X3_put ob_0 ml_L_45 rfl rfl ⟨Nat.le_of_ble_eq_true rfl, Nat.le_of_ble_eq_true rfl⟩ (Nat.le_of_ble_eq_true rfl) dL_law_479 (fun fx51 => ?_)
        refine gr_aload_n dL_law_482 rfl rfl ?_
        refine gr_aload_n dL_law_483 rfl rfl ?_
        refine gr_iload_n dL_law_484 rfl rfl ?_
        refine gr_iconst dL_law_485 gk_i_1 ?_
        refine gr_iadd dL_law_486 ?_
        refine gq_script dL_law_487 h (fun x52 h => ?_)
        refine gr_aload_n dL_law_488 rfl rfl ?_
        refine gr_iload_n dL_law_489 rfl rfl ?_
        refine gr_iconst dL_law_490 gk_i_2 ?_
        refine gr_iadd dL_law_491 ?_
        refine gq_script dL_law_492 h (fun x53 h => ?_)
        refine gr_aload_n dL_law_493 rfl rfl ?_
        refine gr_iload_n dL_law_494 rfl rfl ?_
        refine gr_iconst dL_law_495 gk_i_3 ?_
        refine gr_iadd dL_law_496 ?_
        refine gq_script dL_law_497 h (fun x54 h => ?_)
        obtain ⟨x55, hx55, h⟩ := gn_bd h
        refine gc_VI (c_X4_put hx55) my_X4_put mv_X4_put ob_38 ml_L_48 rfl rfl ⟨Nat.le_of_ble_eq_true rfl, Nat.le_of_ble_eq_true rfl⟩ (Nat.le_of_ble_eq_true rfl) dL_law_498 (fun fx55 => ?_)
        refine gr_icmp_eq (tgt := 1218) dL_law_501 (by decide) h (fun _ h => ?_) (fun _ h => ?_)
        · refine gr_iinc (lv' := [some (.ref 101), some (.ref 0), some (.ref 38), some (.int (v3 + (6 : Int32)))]) dL_law_1218 rfl gk_i_6 (by decide) rfl ?_
          refine gr_goto (tgt := 18) dL_law_1221 (by decide) ?_
          exact ih _ _ h
        · refine gr_iconst dL_law_504 gk_i_0 ?_
          exact gq_retIM dL_law_505 rfl h
      refine gn_sw h (fun hs8 h => ?_) (fun hs8 h => ?_)
      · refine gr_tsIn (tgt := 506) dL_law_33 hs8 (by decide) (by decide) rfl (by decide) ?_
        refine gr_aload_n dL_law_506 rfl rfl ?_
        refine gr_aload_n dL_law_507 rfl rfl ?_
        refine gr_iload_n dL_law_508 rfl rfl ?_
        refine gr_iconst dL_law_509 gk_i_1 ?_
        refine gr_iadd dL_law_510 ?_
        refine gq_script dL_law_511 h (fun x56 h => ?_)
        obtain ⟨x57, hx57, h⟩ := gn_bd h
        refine gc_VI (c_X3_fault hx57) my_X3_fault mv_X3_fault ob_0 ml_L_49 rfl rfl ⟨Nat.le_of_ble_eq_true rfl, Nat.le_of_ble_eq_true rfl⟩ (Nat.le_of_ble_eq_true rfl) dL_law_512 (fun fx57 => ?_)
        refine gr_aload_n dL_law_515 rfl rfl ?_
        refine gr_aload_n dL_law_516 rfl rfl ?_
        refine gr_iload_n dL_law_517 rfl rfl ?_
        refine gr_iconst dL_law_518 gk_i_1 ?_
        refine gr_iadd dL_law_519 ?_
        refine gq_script dL_law_520 h (fun x58 h => ?_)
        obtain ⟨x59, hx59, h⟩ := gn_bd h
        refine gc_VI (c_X4_fault hx59) my_X4_fault mv_X4_fault ob_38 ml_L_52 rfl rfl ⟨Nat.le_of_ble_eq_true rfl, Nat.le_of_ble_eq_true rfl⟩ (Nat.le_of_ble_eq_true rfl) dL_law_521 (fun fx59 => ?_)
        refine gr_icmp_eq (tgt := 1218) dL_law_524 (by decide) h (fun _ h => ?_) (fun _ h => ?_)
        · refine gr_iinc (lv' := [some (.ref 101), some (.ref 0), some (.ref 38), some (.int (v3 + (6 : Int32)))]) dL_law_1218 rfl gk_i_6 (by decide) rfl ?_
          refine gr_goto (tgt := 18) dL_law_1221 (by decide) ?_
          exact ih _ _ h
        · refine gr_iconst dL_law_527 gk_i_0 ?_
          exact gq_retIM dL_law_528 rfl h
      refine gn_sw h (fun hs9 h => ?_) (fun hs9 h => ?_)
      · refine gr_tsIn (tgt := 529) dL_law_33 hs9 (by decide) (by decide) rfl (by decide) ?_
        refine gr_aload_n dL_law_529 rfl rfl ?_
        refine gr_aload_n dL_law_530 rfl rfl ?_
        refine gr_iload_n dL_law_531 rfl rfl ?_
        refine gr_iconst dL_law_532 gk_i_1 ?_
        refine gr_iadd dL_law_533 ?_
        refine gq_script dL_law_534 h (fun x60 h => ?_)
        obtain ⟨x61, hx61, h⟩ := gn_bd h
        refine gc_VI (c_X3_gate hx61) my_X3_gate mv_X3_gate ob_0 ml_L_53 rfl rfl ⟨Nat.le_of_ble_eq_true rfl, Nat.le_of_ble_eq_true rfl⟩ (Nat.le_of_ble_eq_true rfl) dL_law_535 (fun fx61 => ?_)
        refine gr_aload_n dL_law_538 rfl rfl ?_
        refine gr_aload_n dL_law_539 rfl rfl ?_
        refine gr_iload_n dL_law_540 rfl rfl ?_
        refine gr_iconst dL_law_541 gk_i_1 ?_
        refine gr_iadd dL_law_542 ?_
        refine gq_script dL_law_543 h (fun x62 h => ?_)
        obtain ⟨x63, hx63, h⟩ := gn_bd h
        refine gc_VI (c_X4_gate hx63) my_X4_gate mv_X4_gate ob_38 ml_L_56 rfl rfl ⟨Nat.le_of_ble_eq_true rfl, Nat.le_of_ble_eq_true rfl⟩ (Nat.le_of_ble_eq_true rfl) dL_law_544 (fun fx63 => ?_)
        refine gr_icmp_eq (tgt := 1218) dL_law_547 (by decide) h (fun _ h => ?_) (fun _ h => ?_)
        · refine gr_iinc (lv' := [some (.ref 101), some (.ref 0), some (.ref 38), some (.int (v3 + (6 : Int32)))]) dL_law_1218 rfl gk_i_6 (by decide) rfl ?_
          refine gr_goto (tgt := 18) dL_law_1221 (by decide) ?_
          exact ih _ _ h
        · refine gr_iconst dL_law_550 gk_i_0 ?_
          exact gq_retIM dL_law_551 rfl h
      refine gn_sw h (fun hs10 h => ?_) (fun hs10 h => ?_)
      · refine gr_tsIn (tgt := 552) dL_law_33 hs10 (by decide) (by decide) rfl (by decide) ?_
        refine gr_aload_n dL_law_552 rfl rfl ?_
        refine gr_aload_n dL_law_553 rfl rfl ?_
        refine gr_iload_n dL_law_554 rfl rfl ?_
        refine gr_iconst dL_law_555 gk_i_1 ?_
        refine gr_iadd dL_law_556 ?_
        refine gq_script dL_law_557 h (fun x64 h => ?_)
        refine gr_aload_n dL_law_558 rfl rfl ?_
        refine gr_iload_n dL_law_559 rfl rfl ?_
        refine gr_iconst dL_law_560 gk_i_2 ?_
        refine gr_iadd dL_law_561 ?_
        refine gq_script dL_law_562 h (fun x65 h => ?_)
        obtain ⟨x66, hx66, h⟩ := gn_bd h
        refine gc_VI (c_X3_goer hx66) my_X3_goer mv_X3_goer ob_0 ml_L_57 rfl rfl ⟨Nat.le_of_ble_eq_true rfl, Nat.le_of_ble_eq_true rfl⟩ (Nat.le_of_ble_eq_true rfl) dL_law_563 (fun fx66 => ?_)
        refine gr_aload_n dL_law_566 rfl rfl ?_
        refine gr_aload_n dL_law_567 rfl rfl ?_
        refine gr_iload_n dL_law_568 rfl rfl ?_
        refine gr_iconst dL_law_569 gk_i_1 ?_
        refine gr_iadd dL_law_570 ?_
        refine gq_script dL_law_571 h (fun x67 h => ?_)
        refine gr_aload_n dL_law_572 rfl rfl ?_
        refine gr_iload_n dL_law_573 rfl rfl ?_
        refine gr_iconst dL_law_574 gk_i_2 ?_
        refine gr_iadd dL_law_575 ?_
        refine gq_script dL_law_576 h (fun x68 h => ?_)
        obtain ⟨x69, hx69, h⟩ := gn_bd h
        refine gc_VI (c_X4_goer hx69) my_X4_goer mv_X4_goer ob_38 ml_L_60 rfl rfl ⟨Nat.le_of_ble_eq_true rfl, Nat.le_of_ble_eq_true rfl⟩ (Nat.le_of_ble_eq_true rfl) dL_law_577 (fun fx69 => ?_)
        refine gr_icmp_eq (tgt := 1218) dL_law_580 (by decide) h (fun _ h => ?_) (fun _ h => ?_)
        · refine gr_iinc (lv' := [some (.ref 101), some (.ref 0), some (.ref 38), some (.int (v3 + (6 : Int32)))]) dL_law_1218 rfl gk_i_6 (by decide) rfl ?_
          refine gr_goto (tgt := 18) dL_law_1221 (by decide) ?_
          exact ih _ _ h
        · refine gr_iconst dL_law_583 gk_i_0 ?_
          exact gq_retIM dL_law_584 rfl h
      refine gn_sw h (fun hs11 h => ?_) (fun hs11 h => ?_)
      · refine gr_tsIn (tgt := 585) dL_law_33 hs11 (by decide) (by decide) rfl (by decide) ?_
        refine gr_aload_n dL_law_585 rfl rfl ?_
        refine gr_aload_n dL_law_586 rfl rfl ?_
        refine gr_iload_n dL_law_587 rfl rfl ?_
        refine gr_iconst dL_law_588 gk_i_1 ?_
        refine gr_iadd dL_law_589 ?_
        refine gq_script dL_law_590 h (fun x70 h => ?_)
        refine gr_aload_n dL_law_591 rfl rfl ?_
        refine gr_iload_n dL_law_592 rfl rfl ?_
        refine gr_iconst dL_law_593 gk_i_2 ?_
        refine gr_iadd dL_law_594 ?_
        refine gq_script dL_law_595 h (fun x71 h => ?_)
        obtain ⟨x72, hx72, h⟩ := gn_bd h
        refine gc_VI (c_X3_mark hx72) my_X3_mark mv_X3_mark ob_0 ml_L_61 rfl rfl ⟨Nat.le_of_ble_eq_true rfl, Nat.le_of_ble_eq_true rfl⟩ (Nat.le_of_ble_eq_true rfl) dL_law_596 (fun fx72 => ?_)
        refine gr_aload_n dL_law_599 rfl rfl ?_
        refine gr_aload_n dL_law_600 rfl rfl ?_
        refine gr_iload_n dL_law_601 rfl rfl ?_
        refine gr_iconst dL_law_602 gk_i_1 ?_
        refine gr_iadd dL_law_603 ?_
        refine gq_script dL_law_604 h (fun x73 h => ?_)
        refine gr_aload_n dL_law_605 rfl rfl ?_
        refine gr_iload_n dL_law_606 rfl rfl ?_
        refine gr_iconst dL_law_607 gk_i_2 ?_
        refine gr_iadd dL_law_608 ?_
        refine gq_script dL_law_609 h (fun x74 h => ?_)
        obtain ⟨x75, hx75, h⟩ := gn_bd h
        refine gc_VI (c_X4_mark hx75) my_X4_mark mv_X4_mark ob_38 ml_L_64 rfl rfl ⟨Nat.le_of_ble_eq_true rfl, Nat.le_of_ble_eq_true rfl⟩ (Nat.le_of_ble_eq_true rfl) dL_law_610 (fun fx75 => ?_)
        refine gr_icmp_eq (tgt := 1218) dL_law_613 (by decide) h (fun _ h => ?_) (fun _ h => ?_)
        · refine gr_iinc (lv' := [some (.ref 101), some (.ref 0), some (.ref 38), some (.int (v3 + (6 : Int32)))]) dL_law_1218 rfl gk_i_6 (by decide) rfl ?_
          refine gr_goto (tgt := 18) dL_law_1221 (by decide) ?_
          exact ih _ _ h
        · refine gr_iconst dL_law_616 gk_i_0 ?_
          exact gq_retIM dL_law_617 rfl h
      refine gn_sw h (fun hs12 h => ?_) (fun hs12 h => ?_)
      · refine gr_tsIn (tgt := 618) dL_law_33 hs12 (by decide) (by decide) rfl (by decide) ?_
        refine gr_aload_n dL_law_618 rfl rfl ?_
        refine gr_aload_n dL_law_619 rfl rfl ?_
        refine gr_iload_n dL_law_620 rfl rfl ?_
        refine gr_iconst dL_law_621 gk_i_1 ?_
        refine gr_iadd dL_law_622 ?_
        refine gq_script dL_law_623 h (fun x76 h => ?_)
        refine gr_aload_n dL_law_624 rfl rfl ?_
        refine gr_iload_n dL_law_625 rfl rfl ?_
        refine gr_iconst dL_law_626 gk_i_2 ?_
        refine gr_iadd dL_law_627 ?_
        refine gq_script dL_law_628 h (fun x77 h => ?_)
        obtain ⟨x78, hx78, h⟩ := gn_bd h
        refine gc_VI (c_X3_tells hx78) my_X3_tells mv_X3_tells ob_0 ml_L_65 rfl rfl ⟨Nat.le_of_ble_eq_true rfl, Nat.le_of_ble_eq_true rfl⟩ (Nat.le_of_ble_eq_true rfl) dL_law_629 (fun fx78 => ?_)
        refine gr_aload_n dL_law_632 rfl rfl ?_
        refine gr_aload_n dL_law_633 rfl rfl ?_
        refine gr_iload_n dL_law_634 rfl rfl ?_
        refine gr_iconst dL_law_635 gk_i_1 ?_
        refine gr_iadd dL_law_636 ?_
        refine gq_script dL_law_637 h (fun x79 h => ?_)
        refine gr_aload_n dL_law_638 rfl rfl ?_
        refine gr_iload_n dL_law_639 rfl rfl ?_
        refine gr_iconst dL_law_640 gk_i_2 ?_
        refine gr_iadd dL_law_641 ?_
        refine gq_script dL_law_642 h (fun x80 h => ?_)
        obtain ⟨x81, hx81, h⟩ := gn_bd h
        refine gc_VI (c_X4_tells hx81) my_X4_tells mv_X4_tells ob_38 ml_L_68 rfl rfl ⟨Nat.le_of_ble_eq_true rfl, Nat.le_of_ble_eq_true rfl⟩ (Nat.le_of_ble_eq_true rfl) dL_law_643 (fun fx81 => ?_)
        refine gr_icmp_eq (tgt := 1218) dL_law_646 (by decide) h (fun _ h => ?_) (fun _ h => ?_)
        · refine gr_iinc (lv' := [some (.ref 101), some (.ref 0), some (.ref 38), some (.int (v3 + (6 : Int32)))]) dL_law_1218 rfl gk_i_6 (by decide) rfl ?_
          refine gr_goto (tgt := 18) dL_law_1221 (by decide) ?_
          exact ih _ _ h
        · refine gr_iconst dL_law_649 gk_i_0 ?_
          exact gq_retIM dL_law_650 rfl h
      refine gn_sw h (fun hs13 h => ?_) (fun hs13 h => ?_)
      · refine gr_tsIn (tgt := 651) dL_law_33 hs13 (by decide) (by decide) rfl (by decide) ?_
        refine gr_aload_n dL_law_651 rfl rfl ?_
        refine gr_aload_n dL_law_652 rfl rfl ?_
        refine gr_iload_n dL_law_653 rfl rfl ?_
        refine gr_iconst dL_law_654 gk_i_1 ?_
        refine gr_iadd dL_law_655 ?_
        refine gq_script dL_law_656 h (fun x82 h => ?_)
        refine gr_aload_n dL_law_657 rfl rfl ?_
        refine gr_iload_n dL_law_658 rfl rfl ?_
        refine gr_iconst dL_law_659 gk_i_2 ?_
        refine gr_iadd dL_law_660 ?_
        refine gq_script dL_law_661 h (fun x83 h => ?_)
        obtain ⟨x84, hx84, h⟩ := gn_bd h
        refine gc_VI (c_X3_meet hx84) my_X3_meet mv_X3_meet ob_0 ml_L_69 rfl rfl ⟨Nat.le_of_ble_eq_true rfl, Nat.le_of_ble_eq_true rfl⟩ (Nat.le_of_ble_eq_true rfl) dL_law_662 (fun fx84 => ?_)
        refine gr_aload_n dL_law_665 rfl rfl ?_
        refine gr_aload_n dL_law_666 rfl rfl ?_
        refine gr_iload_n dL_law_667 rfl rfl ?_
        refine gr_iconst dL_law_668 gk_i_1 ?_
        refine gr_iadd dL_law_669 ?_
        refine gq_script dL_law_670 h (fun x85 h => ?_)
        refine gr_aload_n dL_law_671 rfl rfl ?_
        refine gr_iload_n dL_law_672 rfl rfl ?_
        refine gr_iconst dL_law_673 gk_i_2 ?_
        refine gr_iadd dL_law_674 ?_
        refine gq_script dL_law_675 h (fun x86 h => ?_)
        obtain ⟨x87, hx87, h⟩ := gn_bd h
        refine gc_VI (c_X4_meet hx87) my_X4_meet mv_X4_meet ob_38 ml_L_72 rfl rfl ⟨Nat.le_of_ble_eq_true rfl, Nat.le_of_ble_eq_true rfl⟩ (Nat.le_of_ble_eq_true rfl) dL_law_676 (fun fx87 => ?_)
        refine gr_icmp_eq (tgt := 1218) dL_law_679 (by decide) h (fun _ h => ?_) (fun _ h => ?_)
        · refine gr_iinc (lv' := [some (.ref 101), some (.ref 0), some (.ref 38), some (.int (v3 + (6 : Int32)))]) dL_law_1218 rfl gk_i_6 (by decide) rfl ?_
          refine gr_goto (tgt := 18) dL_law_1221 (by decide) ?_
          exact ih _ _ h
        · refine gr_iconst dL_law_682 gk_i_0 ?_
          exact gq_retIM dL_law_683 rfl h
      refine gn_sw h (fun hs14 h => ?_) (fun hs14 h => ?_)
      · refine gr_tsIn (tgt := 684) dL_law_33 hs14 (by decide) (by decide) rfl (by decide) ?_
        refine gr_aload_n dL_law_684 rfl rfl ?_
        refine gr_aload_n dL_law_685 rfl rfl ?_
        refine gr_iload_n dL_law_686 rfl rfl ?_
        refine gr_iconst dL_law_687 gk_i_1 ?_
        refine gr_iadd dL_law_688 ?_
        refine gq_script dL_law_689 h (fun x88 h => ?_)
        obtain ⟨x89, hx89, h⟩ := gn_bd h
        refine gc_VI (c_X3_card hx89) my_X3_card mv_X3_card ob_0 ml_L_73 rfl rfl ⟨Nat.le_of_ble_eq_true rfl, Nat.le_of_ble_eq_true rfl⟩ (Nat.le_of_ble_eq_true rfl) dL_law_690 (fun fx89 => ?_)
        refine gr_aload_n dL_law_693 rfl rfl ?_
        refine gr_aload_n dL_law_694 rfl rfl ?_
        refine gr_iload_n dL_law_695 rfl rfl ?_
        refine gr_iconst dL_law_696 gk_i_1 ?_
        refine gr_iadd dL_law_697 ?_
        refine gq_script dL_law_698 h (fun x90 h => ?_)
        obtain ⟨x91, hx91, h⟩ := gn_bd h
        refine gc_VI (c_X4_card hx91) my_X4_card mv_X4_card ob_38 ml_L_76 rfl rfl ⟨Nat.le_of_ble_eq_true rfl, Nat.le_of_ble_eq_true rfl⟩ (Nat.le_of_ble_eq_true rfl) dL_law_699 (fun fx91 => ?_)
        refine gr_icmp_eq (tgt := 1218) dL_law_702 (by decide) h (fun _ h => ?_) (fun _ h => ?_)
        · refine gr_iinc (lv' := [some (.ref 101), some (.ref 0), some (.ref 38), some (.int (v3 + (6 : Int32)))]) dL_law_1218 rfl gk_i_6 (by decide) rfl ?_
          refine gr_goto (tgt := 18) dL_law_1221 (by decide) ?_
          exact ih _ _ h
        · refine gr_iconst dL_law_705 gk_i_0 ?_
          exact gq_retIM dL_law_706 rfl h
      refine gn_sw h (fun hs15 h => ?_) (fun hs15 h => ?_)
      · refine gr_tsIn (tgt := 707) dL_law_33 hs15 (by decide) (by decide) rfl (by decide) ?_
        refine gr_aload_n dL_law_707 rfl rfl ?_
        refine gr_aload_n dL_law_708 rfl rfl ?_
        refine gr_iload_n dL_law_709 rfl rfl ?_
        refine gr_iconst dL_law_710 gk_i_1 ?_
        refine gr_iadd dL_law_711 ?_
        refine gq_script dL_law_712 h (fun x92 h => ?_)
        obtain ⟨x93, hx93, h⟩ := gn_bd h
        refine gc_VI (c_X3_reads hx93) my_X3_reads mv_X3_reads ob_0 ml_L_77 rfl rfl ⟨Nat.le_of_ble_eq_true rfl, Nat.le_of_ble_eq_true rfl⟩ (Nat.le_of_ble_eq_true rfl) dL_law_713 (fun fx93 => ?_)
        refine gr_aload_n dL_law_716 rfl rfl ?_
        refine gr_aload_n dL_law_717 rfl rfl ?_
        refine gr_iload_n dL_law_718 rfl rfl ?_
        refine gr_iconst dL_law_719 gk_i_1 ?_
        refine gr_iadd dL_law_720 ?_
        refine gq_script dL_law_721 h (fun x94 h => ?_)
        obtain ⟨x95, hx95, h⟩ := gn_bd h
        refine gc_VI (c_X4_reads hx95) my_X4_reads mv_X4_reads ob_38 ml_L_80 rfl rfl ⟨Nat.le_of_ble_eq_true rfl, Nat.le_of_ble_eq_true rfl⟩ (Nat.le_of_ble_eq_true rfl) dL_law_722 (fun fx95 => ?_)
        refine gr_icmp_eq (tgt := 1218) dL_law_725 (by decide) h (fun _ h => ?_) (fun _ h => ?_)
        · refine gr_iinc (lv' := [some (.ref 101), some (.ref 0), some (.ref 38), some (.int (v3 + (6 : Int32)))]) dL_law_1218 rfl gk_i_6 (by decide) rfl ?_
          refine gr_goto (tgt := 18) dL_law_1221 (by decide) ?_
          exact ih _ _ h
        · refine gr_iconst dL_law_728 gk_i_0 ?_
          exact gq_retIM dL_law_729 rfl h
      refine gn_sw h (fun hs16 h => ?_) (fun hs16 h => ?_)
      · refine gr_tsIn (tgt := 730) dL_law_33 hs16 (by decide) (by decide) rfl (by decide) ?_
        refine gr_aload_n dL_law_730 rfl rfl ?_
        refine gr_aload_n dL_law_731 rfl rfl ?_
        refine gr_iload_n dL_law_732 rfl rfl ?_
        refine gr_iconst dL_law_733 gk_i_1 ?_
        refine gr_iadd dL_law_734 ?_
        refine gq_script dL_law_735 h (fun x96 h => ?_)
        obtain ⟨x97, hx97, h⟩ := gn_bd h
        refine gc_VI (c_X3_go hx97) my_X3_go mv_X3_go ob_0 ml_L_81 rfl rfl ⟨Nat.le_of_ble_eq_true rfl, Nat.le_of_ble_eq_true rfl⟩ (Nat.le_of_ble_eq_true rfl) dL_law_736 (fun fx97 => ?_)
        refine gr_aload_n dL_law_739 rfl rfl ?_
        refine gr_aload_n dL_law_740 rfl rfl ?_
        refine gr_iload_n dL_law_741 rfl rfl ?_
        refine gr_iconst dL_law_742 gk_i_1 ?_
        refine gr_iadd dL_law_743 ?_
        refine gq_script dL_law_744 h (fun x98 h => ?_)
        obtain ⟨x99, hx99, h⟩ := gn_bd h
        refine gc_VI (c_X4_go hx99) my_X4_go mv_X4_go ob_38 ml_L_84 rfl rfl ⟨Nat.le_of_ble_eq_true rfl, Nat.le_of_ble_eq_true rfl⟩ (Nat.le_of_ble_eq_true rfl) dL_law_745 (fun fx99 => ?_)
        refine gr_icmp_eq (tgt := 1218) dL_law_748 (by decide) h (fun _ h => ?_) (fun _ h => ?_)
        · refine gr_iinc (lv' := [some (.ref 101), some (.ref 0), some (.ref 38), some (.int (v3 + (6 : Int32)))]) dL_law_1218 rfl gk_i_6 (by decide) rfl ?_
          refine gr_goto (tgt := 18) dL_law_1221 (by decide) ?_
          exact ih _ _ h
        · refine gr_iconst dL_law_751 gk_i_0 ?_
          exact gq_retIM dL_law_752 rfl h
      refine gn_sw h (fun hs17 h => ?_) (fun hs17 h => ?_)
      · refine gr_tsIn (tgt := 753) dL_law_33 hs17 (by decide) (by decide) rfl (by decide) ?_
        refine gr_aload_n dL_law_753 rfl rfl ?_
        refine gr_aload_n dL_law_754 rfl rfl ?_
        refine gr_iload_n dL_law_755 rfl rfl ?_
        refine gr_iconst dL_law_756 gk_i_1 ?_
        refine gr_iadd dL_law_757 ?_
        refine gq_script dL_law_758 h (fun x100 h => ?_)
        obtain ⟨x101, hx101, h⟩ := gn_bd h
        refine gc_VI (c_X3_undo hx101) my_X3_undo mv_X3_undo ob_0 ml_L_85 rfl rfl ⟨Nat.le_of_ble_eq_true rfl, Nat.le_of_ble_eq_true rfl⟩ (Nat.le_of_ble_eq_true rfl) dL_law_759 (fun fx101 => ?_)
        refine gr_aload_n dL_law_762 rfl rfl ?_
        refine gr_aload_n dL_law_763 rfl rfl ?_
        refine gr_iload_n dL_law_764 rfl rfl ?_
        refine gr_iconst dL_law_765 gk_i_1 ?_
        refine gr_iadd dL_law_766 ?_
        refine gq_script dL_law_767 h (fun x102 h => ?_)
        obtain ⟨x103, hx103, h⟩ := gn_bd h
        refine gc_VI (c_X4_undo hx103) my_X4_undo mv_X4_undo ob_38 ml_L_88 rfl rfl ⟨Nat.le_of_ble_eq_true rfl, Nat.le_of_ble_eq_true rfl⟩ (Nat.le_of_ble_eq_true rfl) dL_law_768 (fun fx103 => ?_)
        refine gr_icmp_eq (tgt := 1218) dL_law_771 (by decide) h (fun _ h => ?_) (fun _ h => ?_)
        · refine gr_iinc (lv' := [some (.ref 101), some (.ref 0), some (.ref 38), some (.int (v3 + (6 : Int32)))]) dL_law_1218 rfl gk_i_6 (by decide) rfl ?_
          refine gr_goto (tgt := 18) dL_law_1221 (by decide) ?_
          exact ih _ _ h
        · refine gr_iconst dL_law_774 gk_i_0 ?_
          exact gq_retIM dL_law_775 rfl h
      refine gn_sw h (fun hs18 h => ?_) (fun hs18 h => ?_)
      · refine gr_tsIn (tgt := 776) dL_law_33 hs18 (by decide) (by decide) rfl (by decide) ?_
        refine gr_aload_n dL_law_776 rfl rfl ?_
        refine gr_aload_n dL_law_777 rfl rfl ?_
        refine gr_iload_n dL_law_778 rfl rfl ?_
        refine gr_iconst dL_law_779 gk_i_1 ?_
        refine gr_iadd dL_law_780 ?_
        refine gq_script dL_law_781 h (fun x104 h => ?_)
        obtain ⟨x105, hx105, h⟩ := gn_bd h
        refine gc_VI (c_X3_keep hx105) my_X3_keep mv_X3_keep ob_0 ml_L_89 rfl rfl ⟨Nat.le_of_ble_eq_true rfl, Nat.le_of_ble_eq_true rfl⟩ (Nat.le_of_ble_eq_true rfl) dL_law_782 (fun fx105 => ?_)
        refine gr_aload_n dL_law_785 rfl rfl ?_
        refine gr_aload_n dL_law_786 rfl rfl ?_
        refine gr_iload_n dL_law_787 rfl rfl ?_
        refine gr_iconst dL_law_788 gk_i_1 ?_
        refine gr_iadd dL_law_789 ?_
        refine gq_script dL_law_790 h (fun x106 h => ?_)
        obtain ⟨x107, hx107, h⟩ := gn_bd h
        refine gc_VI (c_X4_keep hx107) my_X4_keep mv_X4_keep ob_38 ml_L_92 rfl rfl ⟨Nat.le_of_ble_eq_true rfl, Nat.le_of_ble_eq_true rfl⟩ (Nat.le_of_ble_eq_true rfl) dL_law_791 (fun fx107 => ?_)
        refine gr_icmp_eq (tgt := 1218) dL_law_794 (by decide) h (fun _ h => ?_) (fun _ h => ?_)
        · refine gr_iinc (lv' := [some (.ref 101), some (.ref 0), some (.ref 38), some (.int (v3 + (6 : Int32)))]) dL_law_1218 rfl gk_i_6 (by decide) rfl ?_
          refine gr_goto (tgt := 18) dL_law_1221 (by decide) ?_
          exact ih _ _ h
        · refine gr_iconst dL_law_797 gk_i_0 ?_
          exact gq_retIM dL_law_798 rfl h
      refine gn_sw h (fun hs19 h => ?_) (fun hs19 h => ?_)
      · refine gr_tsIn (tgt := 799) dL_law_33 hs19 (by decide) (by decide) rfl (by decide) ?_
        refine gr_aload_n dL_law_799 rfl rfl ?_
        refine gr_aload_n dL_law_800 rfl rfl ?_
        refine gr_iload_n dL_law_801 rfl rfl ?_
        refine gr_iconst dL_law_802 gk_i_1 ?_
        refine gr_iadd dL_law_803 ?_
        refine gq_script dL_law_804 h (fun x108 h => ?_)
        obtain ⟨x109, hx109, h⟩ := gn_bd h
        refine gc_VI (c_X3_on hx109) my_X3_on mv_X3_on ob_0 ml_L_93 rfl rfl ⟨Nat.le_of_ble_eq_true rfl, Nat.le_of_ble_eq_true rfl⟩ (Nat.le_of_ble_eq_true rfl) dL_law_805 (fun fx109 => ?_)
        refine gr_aload_n dL_law_808 rfl rfl ?_
        refine gr_aload_n dL_law_809 rfl rfl ?_
        refine gr_iload_n dL_law_810 rfl rfl ?_
        refine gr_iconst dL_law_811 gk_i_1 ?_
        refine gr_iadd dL_law_812 ?_
        refine gq_script dL_law_813 h (fun x110 h => ?_)
        obtain ⟨x111, hx111, h⟩ := gn_bd h
        refine gc_VI (c_X4_on hx111) my_X4_on mv_X4_on ob_38 ml_L_96 rfl rfl ⟨Nat.le_of_ble_eq_true rfl, Nat.le_of_ble_eq_true rfl⟩ (Nat.le_of_ble_eq_true rfl) dL_law_814 (fun fx111 => ?_)
        refine gr_icmp_eq (tgt := 1218) dL_law_817 (by decide) h (fun _ h => ?_) (fun _ h => ?_)
        · refine gr_iinc (lv' := [some (.ref 101), some (.ref 0), some (.ref 38), some (.int (v3 + (6 : Int32)))]) dL_law_1218 rfl gk_i_6 (by decide) rfl ?_
          refine gr_goto (tgt := 18) dL_law_1221 (by decide) ?_
          exact ih _ _ h
        · refine gr_iconst dL_law_820 gk_i_0 ?_
          exact gq_retIM dL_law_821 rfl h
      refine gn_sw h (fun hs20 h => ?_) (fun hs20 h => ?_)
      · refine gr_tsIn (tgt := 822) dL_law_33 hs20 (by decide) (by decide) rfl (by decide) ?_
        refine gr_aload_n dL_law_822 rfl rfl ?_
        obtain ⟨x112, hx112, h⟩ := gn_bd h
        refine gc_VI (c_X3_open hx112) my_X3_open mv_X3_open ob_0 ml_L_97 rfl rfl ⟨Nat.le_of_ble_eq_true rfl, Nat.le_of_ble_eq_true rfl⟩ (Nat.le_of_ble_eq_true rfl) dL_law_823 (fun fx112 => ?_)
        refine gr_aload_n dL_law_826 rfl rfl ?_
        obtain ⟨x113, hx113, h⟩ := gn_bd h
        refine gc_VI (c_X4_open hx113) my_X4_open mv_X4_open ob_38 ml_L_101 rfl rfl ⟨Nat.le_of_ble_eq_true rfl, Nat.le_of_ble_eq_true rfl⟩ (Nat.le_of_ble_eq_true rfl) dL_law_827 (fun fx113 => ?_)
        refine gr_icmp_eq (tgt := 1218) dL_law_830 (by decide) h (fun _ h => ?_) (fun _ h => ?_)
        · refine gr_iinc (lv' := [some (.ref 101), some (.ref 0), some (.ref 38), some (.int (v3 + (6 : Int32)))]) dL_law_1218 rfl gk_i_6 (by decide) rfl ?_
          refine gr_goto (tgt := 18) dL_law_1221 (by decide) ?_
          exact ih _ _ h
        · refine gr_iconst dL_law_833 gk_i_0 ?_
          exact gq_retIM dL_law_834 rfl h
      refine gn_sw h (fun hs21 h => ?_) (fun hs21 h => ?_)
      · refine gr_tsIn (tgt := 835) dL_law_33 hs21 (by decide) (by decide) rfl (by decide) ?_
        refine gr_aload_n dL_law_835 rfl rfl ?_
        refine gr_aload_n dL_law_836 rfl rfl ?_
        refine gr_iload_n dL_law_837 rfl rfl ?_
        refine gr_iconst dL_law_838 gk_i_1 ?_
        refine gr_iadd dL_law_839 ?_
        refine gq_script dL_law_840 h (fun x114 h => ?_)
        obtain ⟨x115, hx115, h⟩ := gn_bd h
        refine gc_VI (c_X3_most hx115) my_X3_most mv_X3_most ob_0 ml_L_102 rfl rfl ⟨Nat.le_of_ble_eq_true rfl, Nat.le_of_ble_eq_true rfl⟩ (Nat.le_of_ble_eq_true rfl) dL_law_841 (fun fx115 => ?_)
        refine gr_aload_n dL_law_844 rfl rfl ?_
        refine gr_aload_n dL_law_845 rfl rfl ?_
        refine gr_iload_n dL_law_846 rfl rfl ?_
        refine gr_iconst dL_law_847 gk_i_1 ?_
        refine gr_iadd dL_law_848 ?_
        refine gq_script dL_law_849 h (fun x116 h => ?_)
        obtain ⟨x117, hx117, h⟩ := gn_bd h
        refine gc_VI (c_X4_most hx117) my_X4_most mv_X4_most ob_38 ml_L_105 rfl rfl ⟨Nat.le_of_ble_eq_true rfl, Nat.le_of_ble_eq_true rfl⟩ (Nat.le_of_ble_eq_true rfl) dL_law_850 (fun fx117 => ?_)
        refine gr_icmp_eq (tgt := 1218) dL_law_853 (by decide) h (fun _ h => ?_) (fun _ h => ?_)
        · refine gr_iinc (lv' := [some (.ref 101), some (.ref 0), some (.ref 38), some (.int (v3 + (6 : Int32)))]) dL_law_1218 rfl gk_i_6 (by decide) rfl ?_
          refine gr_goto (tgt := 18) dL_law_1221 (by decide) ?_
          exact ih _ _ h
        · refine gr_iconst dL_law_856 gk_i_0 ?_
          exact gq_retIM dL_law_857 rfl h
      refine gn_sw h (fun hs22 h => ?_) (fun hs22 h => ?_)
      · refine gr_tsIn (tgt := 858) dL_law_33 hs22 (by decide) (by decide) rfl (by decide) ?_
        refine gr_aload_n dL_law_858 rfl rfl ?_
        obtain ⟨x118, hx118, h⟩ := gn_bd h
        refine gc_VI (c_X3_worth hx118) my_X3_worth mv_X3_worth ob_0 ml_L_106 rfl rfl ⟨Nat.le_of_ble_eq_true rfl, Nat.le_of_ble_eq_true rfl⟩ (Nat.le_of_ble_eq_true rfl) dL_law_859 (fun fx118 => ?_)
        refine gr_aload_n dL_law_862 rfl rfl ?_
        obtain ⟨x119, hx119, h⟩ := gn_bd h
        refine gc_VI (c_X4_worth hx119) my_X4_worth mv_X4_worth ob_38 ml_L_109 rfl rfl ⟨Nat.le_of_ble_eq_true rfl, Nat.le_of_ble_eq_true rfl⟩ (Nat.le_of_ble_eq_true rfl) dL_law_863 (fun fx119 => ?_)
        refine gr_icmp_eq (tgt := 1218) dL_law_866 (by decide) h (fun _ h => ?_) (fun _ h => ?_)
        · refine gr_iinc (lv' := [some (.ref 101), some (.ref 0), some (.ref 38), some (.int (v3 + (6 : Int32)))]) dL_law_1218 rfl gk_i_6 (by decide) rfl ?_
          refine gr_goto (tgt := 18) dL_law_1221 (by decide) ?_
          exact ih _ _ h
        · refine gr_iconst dL_law_869 gk_i_0 ?_
          exact gq_retIM dL_law_870 rfl h
      refine gn_sw h (fun hs23 h => ?_) (fun hs23 h => ?_)
      · refine gr_tsIn (tgt := 871) dL_law_33 hs23 (by decide) (by decide) rfl (by decide) ?_
        refine gr_aload_n dL_law_871 rfl rfl ?_
        obtain ⟨x120, hx120, h⟩ := gn_bd h
        refine gc_VI (c_X3_orders hx120) my_X3_orders mv_X3_orders ob_0 ml_L_110 rfl rfl ⟨Nat.le_of_ble_eq_true rfl, Nat.le_of_ble_eq_true rfl⟩ (Nat.le_of_ble_eq_true rfl) dL_law_872 (fun fx120 => ?_)
        refine gr_aload_n dL_law_875 rfl rfl ?_
        obtain ⟨x121, hx121, h⟩ := gn_bd h
        refine gc_VI (c_X4_orders hx121) my_X4_orders mv_X4_orders ob_38 ml_L_113 rfl rfl ⟨Nat.le_of_ble_eq_true rfl, Nat.le_of_ble_eq_true rfl⟩ (Nat.le_of_ble_eq_true rfl) dL_law_876 (fun fx121 => ?_)
        refine gr_icmp_eq (tgt := 1218) dL_law_879 (by decide) h (fun _ h => ?_) (fun _ h => ?_)
        · refine gr_iinc (lv' := [some (.ref 101), some (.ref 0), some (.ref 38), some (.int (v3 + (6 : Int32)))]) dL_law_1218 rfl gk_i_6 (by decide) rfl ?_
          refine gr_goto (tgt := 18) dL_law_1221 (by decide) ?_
          exact ih _ _ h
        · refine gr_iconst dL_law_882 gk_i_0 ?_
          exact gq_retIM dL_law_883 rfl h
      refine gn_sw h (fun hs24 h => ?_) (fun hs24 h => ?_)
      · refine gr_tsIn (tgt := 884) dL_law_33 hs24 (by decide) (by decide) rfl (by decide) ?_
        refine gr_aload_n dL_law_884 rfl rfl ?_
        obtain ⟨x122, hx122, h⟩ := gn_bd h
        refine gc_VI (c_X3_meetings hx122) my_X3_meetings mv_X3_meetings ob_0 ml_L_114 rfl rfl ⟨Nat.le_of_ble_eq_true rfl, Nat.le_of_ble_eq_true rfl⟩ (Nat.le_of_ble_eq_true rfl) dL_law_885 (fun fx122 => ?_)
        refine gr_aload_n dL_law_888 rfl rfl ?_
        obtain ⟨x123, hx123, h⟩ := gn_bd h
        refine gc_VI (c_X4_meetings hx123) my_X4_meetings mv_X4_meetings ob_38 ml_L_117 rfl rfl ⟨Nat.le_of_ble_eq_true rfl, Nat.le_of_ble_eq_true rfl⟩ (Nat.le_of_ble_eq_true rfl) dL_law_889 (fun fx123 => ?_)
        refine gr_icmp_eq (tgt := 1218) dL_law_892 (by decide) h (fun _ h => ?_) (fun _ h => ?_)
        · refine gr_iinc (lv' := [some (.ref 101), some (.ref 0), some (.ref 38), some (.int (v3 + (6 : Int32)))]) dL_law_1218 rfl gk_i_6 (by decide) rfl ?_
          refine gr_goto (tgt := 18) dL_law_1221 (by decide) ?_
          exact ih _ _ h
        · refine gr_iconst dL_law_895 gk_i_0 ?_
          exact gq_retIM dL_law_896 rfl h
      refine gn_sw h (fun hs25 h => ?_) (fun hs25 h => ?_)
      · refine gr_tsIn (tgt := 897) dL_law_33 hs25 (by decide) (by decide) rfl (by decide) ?_
        refine gr_aload_n dL_law_897 rfl rfl ?_
        obtain ⟨x124, hx124, h⟩ := gn_bd h
        refine gc_VI (c_X3_stone hx124) my_X3_stone mv_X3_stone ob_0 ml_L_118 rfl rfl ⟨Nat.le_of_ble_eq_true rfl, Nat.le_of_ble_eq_true rfl⟩ (Nat.le_of_ble_eq_true rfl) dL_law_898 (fun fx124 => ?_)
        refine gr_aload_n dL_law_901 rfl rfl ?_
        obtain ⟨x125, hx125, h⟩ := gn_bd h
        refine gc_VI (c_X4_stone hx125) my_X4_stone mv_X4_stone ob_38 ml_L_121 rfl rfl ⟨Nat.le_of_ble_eq_true rfl, Nat.le_of_ble_eq_true rfl⟩ (Nat.le_of_ble_eq_true rfl) dL_law_902 (fun fx125 => ?_)
        refine gr_icmp_eq (tgt := 1218) dL_law_905 (by decide) h (fun _ h => ?_) (fun _ h => ?_)
        · refine gr_iinc (lv' := [some (.ref 101), some (.ref 0), some (.ref 38), some (.int (v3 + (6 : Int32)))]) dL_law_1218 rfl gk_i_6 (by decide) rfl ?_
          refine gr_goto (tgt := 18) dL_law_1221 (by decide) ?_
          exact ih _ _ h
        · refine gr_iconst dL_law_908 gk_i_0 ?_
          exact gq_retIM dL_law_909 rfl h
      refine gn_sw h (fun hs26 h => ?_) (fun hs26 h => ?_)
      · refine gr_tsIn (tgt := 910) dL_law_33 hs26 (by decide) (by decide) rfl (by decide) ?_
        refine gr_aload_n dL_law_910 rfl rfl ?_
        obtain ⟨x126, hx126, h⟩ := gn_bd h
        refine gc_VI (c_X3_hold hx126) my_X3_hold mv_X3_hold ob_0 ml_L_122 rfl rfl ⟨Nat.le_of_ble_eq_true rfl, Nat.le_of_ble_eq_true rfl⟩ (Nat.le_of_ble_eq_true rfl) dL_law_911 (fun fx126 => ?_)
        refine gr_aload_n dL_law_914 rfl rfl ?_
        obtain ⟨x127, hx127, h⟩ := gn_bd h
        refine gc_VI (c_X4_hold hx127) my_X4_hold mv_X4_hold ob_38 ml_L_125 rfl rfl ⟨Nat.le_of_ble_eq_true rfl, Nat.le_of_ble_eq_true rfl⟩ (Nat.le_of_ble_eq_true rfl) dL_law_915 (fun fx127 => ?_)
        refine gr_icmp_eq (tgt := 1218) dL_law_918 (by decide) h (fun _ h => ?_) (fun _ h => ?_)
        · refine gr_iinc (lv' := [some (.ref 101), some (.ref 0), some (.ref 38), some (.int (v3 + (6 : Int32)))]) dL_law_1218 rfl gk_i_6 (by decide) rfl ?_
          refine gr_goto (tgt := 18) dL_law_1221 (by decide) ?_
          exact ih _ _ h
        · refine gr_iconst dL_law_921 gk_i_0 ?_
          exact gq_retIM dL_law_922 rfl h
      refine gn_sw h (fun hs27 h => ?_) (fun hs27 h => ?_)
      · refine gr_tsIn (tgt := 923) dL_law_33 hs27 (by decide) (by decide) rfl (by decide) ?_
        refine gr_aload_n dL_law_923 rfl rfl ?_
        refine gr_aload_n dL_law_924 rfl rfl ?_
        refine gr_iload_n dL_law_925 rfl rfl ?_
        refine gr_iconst dL_law_926 gk_i_1 ?_
        refine gr_iadd dL_law_927 ?_
        refine gq_script dL_law_928 h (fun x128 h => ?_)
        obtain ⟨x129, hx129, h⟩ := gn_bd h
        refine gc_VI (c_X3_last hx129) my_X3_last mv_X3_last ob_0 ml_L_126 rfl rfl ⟨Nat.le_of_ble_eq_true rfl, Nat.le_of_ble_eq_true rfl⟩ (Nat.le_of_ble_eq_true rfl) dL_law_929 (fun fx129 => ?_)
        refine gr_aload_n dL_law_932 rfl rfl ?_
        refine gr_aload_n dL_law_933 rfl rfl ?_
        refine gr_iload_n dL_law_934 rfl rfl ?_
        refine gr_iconst dL_law_935 gk_i_1 ?_
        refine gr_iadd dL_law_936 ?_
        refine gq_script dL_law_937 h (fun x130 h => ?_)
        obtain ⟨x131, hx131, h⟩ := gn_bd h
        refine gc_VI (c_X4_last hx131) my_X4_last mv_X4_last ob_38 ml_L_129 rfl rfl ⟨Nat.le_of_ble_eq_true rfl, Nat.le_of_ble_eq_true rfl⟩ (Nat.le_of_ble_eq_true rfl) dL_law_938 (fun fx131 => ?_)
        refine gr_icmp_eq (tgt := 1218) dL_law_941 (by decide) h (fun _ h => ?_) (fun _ h => ?_)
        · refine gr_iinc (lv' := [some (.ref 101), some (.ref 0), some (.ref 38), some (.int (v3 + (6 : Int32)))]) dL_law_1218 rfl gk_i_6 (by decide) rfl ?_
          refine gr_goto (tgt := 18) dL_law_1221 (by decide) ?_
          exact ih _ _ h
        · refine gr_iconst dL_law_944 gk_i_0 ?_
          exact gq_retIM dL_law_945 rfl h
      refine gn_sw h (fun hs28 h => ?_) (fun hs28 h => ?_)
      · refine gr_tsIn (tgt := 946) dL_law_33 hs28 (by decide) (by decide) rfl (by decide) ?_
        refine gr_aload_n dL_law_946 rfl rfl ?_
        refine gr_aload_n dL_law_947 rfl rfl ?_
        refine gr_iload_n dL_law_948 rfl rfl ?_
        refine gr_iconst dL_law_949 gk_i_1 ?_
        refine gr_iadd dL_law_950 ?_
        refine gq_script dL_law_951 h (fun x132 h => ?_)
        refine gr_aload_n dL_law_952 rfl rfl ?_
        refine gr_iload_n dL_law_953 rfl rfl ?_
        refine gr_iconst dL_law_954 gk_i_2 ?_
        refine gr_iadd dL_law_955 ?_
        refine gq_script dL_law_956 h (fun x133 h => ?_)
        obtain ⟨x134, hx134, h⟩ := gn_bd h
        refine gc_VI (c_X3_kinds hx134) my_X3_kinds mv_X3_kinds ob_0 ml_L_130 rfl rfl ⟨Nat.le_of_ble_eq_true rfl, Nat.le_of_ble_eq_true rfl⟩ (Nat.le_of_ble_eq_true rfl) dL_law_957 (fun fx134 => ?_)
        refine gr_aload_n dL_law_960 rfl rfl ?_
        refine gr_aload_n dL_law_961 rfl rfl ?_
        refine gr_iload_n dL_law_962 rfl rfl ?_
        refine gr_iconst dL_law_963 gk_i_1 ?_
        refine gr_iadd dL_law_964 ?_
        refine gq_script dL_law_965 h (fun x135 h => ?_)
        refine gr_aload_n dL_law_966 rfl rfl ?_
        refine gr_iload_n dL_law_967 rfl rfl ?_
        refine gr_iconst dL_law_968 gk_i_2 ?_
        refine gr_iadd dL_law_969 ?_
        refine gq_script dL_law_970 h (fun x136 h => ?_)
        obtain ⟨x137, hx137, h⟩ := gn_bd h
        refine gc_VI (c_X4_kinds hx137) my_X4_kinds mv_X4_kinds ob_38 ml_L_133 rfl rfl ⟨Nat.le_of_ble_eq_true rfl, Nat.le_of_ble_eq_true rfl⟩ (Nat.le_of_ble_eq_true rfl) dL_law_971 (fun fx137 => ?_)
        refine gr_icmp_eq (tgt := 1218) dL_law_974 (by decide) h (fun _ h => ?_) (fun _ h => ?_)
        · refine gr_iinc (lv' := [some (.ref 101), some (.ref 0), some (.ref 38), some (.int (v3 + (6 : Int32)))]) dL_law_1218 rfl gk_i_6 (by decide) rfl ?_
          refine gr_goto (tgt := 18) dL_law_1221 (by decide) ?_
          exact ih _ _ h
        · refine gr_iconst dL_law_977 gk_i_0 ?_
          exact gq_retIM dL_law_978 rfl h
      refine gn_sw h (fun hs29 h => ?_) (fun hs29 h => ?_)
      · refine gr_tsIn (tgt := 979) dL_law_33 hs29 (by decide) (by decide) rfl (by decide) ?_
        refine gr_aload_n dL_law_979 rfl rfl ?_
        refine gr_aload_n dL_law_980 rfl rfl ?_
        refine gr_iload_n dL_law_981 rfl rfl ?_
        refine gr_iconst dL_law_982 gk_i_1 ?_
        refine gr_iadd dL_law_983 ?_
        refine gq_script dL_law_984 h (fun x138 h => ?_)
        refine gr_aload_n dL_law_985 rfl rfl ?_
        refine gr_iload_n dL_law_986 rfl rfl ?_
        refine gr_iconst dL_law_987 gk_i_2 ?_
        refine gr_iadd dL_law_988 ?_
        refine gq_script dL_law_989 h (fun x139 h => ?_)
        obtain ⟨x140, hx140, h⟩ := gn_bd h
        refine gc_VI (c_X3_test hx140) my_X3_test mv_X3_test ob_0 ml_L_134 rfl rfl ⟨Nat.le_of_ble_eq_true rfl, Nat.le_of_ble_eq_true rfl⟩ (Nat.le_of_ble_eq_true rfl) dL_law_990 (fun fx140 => ?_)
        refine gr_aload_n dL_law_993 rfl rfl ?_
        refine gr_aload_n dL_law_994 rfl rfl ?_
        refine gr_iload_n dL_law_995 rfl rfl ?_
        refine gr_iconst dL_law_996 gk_i_1 ?_
        refine gr_iadd dL_law_997 ?_
        refine gq_script dL_law_998 h (fun x141 h => ?_)
        refine gr_aload_n dL_law_999 rfl rfl ?_
        refine gr_iload_n dL_law_1000 rfl rfl ?_
        refine gr_iconst dL_law_1001 gk_i_2 ?_
        refine gr_iadd dL_law_1002 ?_
        refine gq_script dL_law_1003 h (fun x142 h => ?_)
        obtain ⟨x143, hx143, h⟩ := gn_bd h
        refine gc_VI (c_X4_test hx143) my_X4_test mv_X4_test ob_38 ml_L_137 rfl rfl ⟨Nat.le_of_ble_eq_true rfl, Nat.le_of_ble_eq_true rfl⟩ (Nat.le_of_ble_eq_true rfl) dL_law_1004 (fun fx143 => ?_)
        refine gr_icmp_eq (tgt := 1218) dL_law_1007 (by decide) h (fun _ h => ?_) (fun _ h => ?_)
        · refine gr_iinc (lv' := [some (.ref 101), some (.ref 0), some (.ref 38), some (.int (v3 + (6 : Int32)))]) dL_law_1218 rfl gk_i_6 (by decide) rfl ?_
          refine gr_goto (tgt := 18) dL_law_1221 (by decide) ?_
          exact ih _ _ h
        · refine gr_iconst dL_law_1010 gk_i_0 ?_
          exact gq_retIM dL_law_1011 rfl h
      refine gn_sw h (fun hs30 h => ?_) (fun hs30 h => ?_)
      · refine gr_tsIn (tgt := 1012) dL_law_33 hs30 (by decide) (by decide) rfl (by decide) ?_
        refine gr_aload_n dL_law_1012 rfl rfl ?_
        obtain ⟨x144, hx144, h⟩ := gn_bd h
        refine gc_VI (c_X3_duel hx144) my_X3_duel mv_X3_duel ob_0 ml_L_138 rfl rfl ⟨Nat.le_of_ble_eq_true rfl, Nat.le_of_ble_eq_true rfl⟩ (Nat.le_of_ble_eq_true rfl) dL_law_1013 (fun fx144 => ?_)
        refine gr_aload_n dL_law_1016 rfl rfl ?_
        obtain ⟨x145, hx145, h⟩ := gn_bd h
        refine gc_VI (c_X4_duel hx145) my_X4_duel mv_X4_duel ob_38 ml_L_141 rfl rfl ⟨Nat.le_of_ble_eq_true rfl, Nat.le_of_ble_eq_true rfl⟩ (Nat.le_of_ble_eq_true rfl) dL_law_1017 (fun fx145 => ?_)
        refine gr_icmp_eq (tgt := 1218) dL_law_1020 (by decide) h (fun _ h => ?_) (fun _ h => ?_)
        · refine gr_iinc (lv' := [some (.ref 101), some (.ref 0), some (.ref 38), some (.int (v3 + (6 : Int32)))]) dL_law_1218 rfl gk_i_6 (by decide) rfl ?_
          refine gr_goto (tgt := 18) dL_law_1221 (by decide) ?_
          exact ih _ _ h
        · refine gr_iconst dL_law_1023 gk_i_0 ?_
          exact gq_retIM dL_law_1024 rfl h
      refine gn_sw h (fun hs31 h => ?_) (fun hs31 h => ?_)
      · refine gr_tsIn (tgt := 1025) dL_law_33 hs31 (by decide) (by decide) rfl (by decide) ?_
        refine gr_aload_n dL_law_1025 rfl rfl ?_
        refine gr_aload_n dL_law_1026 rfl rfl ?_
        refine gr_iload_n dL_law_1027 rfl rfl ?_
        refine gr_iconst dL_law_1028 gk_i_1 ?_
        refine gr_iadd dL_law_1029 ?_
        refine gq_script dL_law_1030 h (fun x146 h => ?_)
        obtain ⟨x147, hx147, h⟩ := gn_bd h
        refine gc_VI (c_X3_odds hx147) my_X3_odds mv_X3_odds ob_0 ml_L_142 rfl rfl ⟨Nat.le_of_ble_eq_true rfl, Nat.le_of_ble_eq_true rfl⟩ (Nat.le_of_ble_eq_true rfl) dL_law_1031 (fun fx147 => ?_)
        refine gr_aload_n dL_law_1034 rfl rfl ?_
        refine gr_aload_n dL_law_1035 rfl rfl ?_
        refine gr_iload_n dL_law_1036 rfl rfl ?_
        refine gr_iconst dL_law_1037 gk_i_1 ?_
        refine gr_iadd dL_law_1038 ?_
        refine gq_script dL_law_1039 h (fun x148 h => ?_)
        obtain ⟨x149, hx149, h⟩ := gn_bd h
        refine gc_VI (c_X4_odds hx149) my_X4_odds mv_X4_odds ob_38 ml_L_145 rfl rfl ⟨Nat.le_of_ble_eq_true rfl, Nat.le_of_ble_eq_true rfl⟩ (Nat.le_of_ble_eq_true rfl) dL_law_1040 (fun fx149 => ?_)
        refine gr_icmp_eq (tgt := 1218) dL_law_1043 (by decide) h (fun _ h => ?_) (fun _ h => ?_)
        · refine gr_iinc (lv' := [some (.ref 101), some (.ref 0), some (.ref 38), some (.int (v3 + (6 : Int32)))]) dL_law_1218 rfl gk_i_6 (by decide) rfl ?_
          refine gr_goto (tgt := 18) dL_law_1221 (by decide) ?_
          exact ih _ _ h
        · refine gr_iconst dL_law_1046 gk_i_0 ?_
          exact gq_retIM dL_law_1047 rfl h
      refine gn_sw h (fun hs32 h => ?_) (fun hs32 h => ?_)
      · refine gr_tsIn (tgt := 1048) dL_law_33 hs32 (by decide) (by decide) rfl (by decide) ?_
        refine gr_aload_n dL_law_1048 rfl rfl ?_
        refine gr_aload_n dL_law_1049 rfl rfl ?_
        refine gr_iload_n dL_law_1050 rfl rfl ?_
        refine gr_iconst dL_law_1051 gk_i_1 ?_
        refine gr_iadd dL_law_1052 ?_
        refine gq_script dL_law_1053 h (fun x150 h => ?_)
        obtain ⟨x151, hx151, h⟩ := gn_bd h
        refine gc_VI (c_X3_mid hx151) my_X3_mid mv_X3_mid ob_0 ml_L_146 rfl rfl ⟨Nat.le_of_ble_eq_true rfl, Nat.le_of_ble_eq_true rfl⟩ (Nat.le_of_ble_eq_true rfl) dL_law_1054 (fun fx151 => ?_)
        refine gr_aload_n dL_law_1057 rfl rfl ?_
        refine gr_aload_n dL_law_1058 rfl rfl ?_
        refine gr_iload_n dL_law_1059 rfl rfl ?_
        refine gr_iconst dL_law_1060 gk_i_1 ?_
        refine gr_iadd dL_law_1061 ?_
        refine gq_script dL_law_1062 h (fun x152 h => ?_)
        obtain ⟨x153, hx153, h⟩ := gn_bd h
        refine gc_VI (c_X4_mid hx153) my_X4_mid mv_X4_mid ob_38 ml_L_149 rfl rfl ⟨Nat.le_of_ble_eq_true rfl, Nat.le_of_ble_eq_true rfl⟩ (Nat.le_of_ble_eq_true rfl) dL_law_1063 (fun fx153 => ?_)
        refine gr_icmp_eq (tgt := 1218) dL_law_1066 (by decide) h (fun _ h => ?_) (fun _ h => ?_)
        · refine gr_iinc (lv' := [some (.ref 101), some (.ref 0), some (.ref 38), some (.int (v3 + (6 : Int32)))]) dL_law_1218 rfl gk_i_6 (by decide) rfl ?_
          refine gr_goto (tgt := 18) dL_law_1221 (by decide) ?_
          exact ih _ _ h
        · refine gr_iconst dL_law_1069 gk_i_0 ?_
          exact gq_retIM dL_law_1070 rfl h
      refine gn_sw h (fun hs33 h => ?_) (fun hs33 h => ?_)
      · refine gr_tsIn (tgt := 1071) dL_law_33 hs33 (by decide) (by decide) rfl (by decide) ?_
        refine gr_aload_n dL_law_1071 rfl rfl ?_
        refine gr_aload_n dL_law_1072 rfl rfl ?_
        refine gr_iload_n dL_law_1073 rfl rfl ?_
        refine gr_iconst dL_law_1074 gk_i_1 ?_
        refine gr_iadd dL_law_1075 ?_
        refine gq_script dL_law_1076 h (fun x154 h => ?_)
        refine gr_aload_n dL_law_1077 rfl rfl ?_
        refine gr_iload_n dL_law_1078 rfl rfl ?_
        refine gr_iconst dL_law_1079 gk_i_2 ?_
        refine gr_iadd dL_law_1080 ?_
        refine gq_script dL_law_1081 h (fun x155 h => ?_)
        obtain ⟨x156, hx156, h⟩ := gn_bd h
        refine gc_VI (c_X3_lots hx156) my_X3_lots mv_X3_lots ob_0 ml_L_150 rfl rfl ⟨Nat.le_of_ble_eq_true rfl, Nat.le_of_ble_eq_true rfl⟩ (Nat.le_of_ble_eq_true rfl) dL_law_1082 (fun fx156 => ?_)
        refine gr_aload_n dL_law_1085 rfl rfl ?_
        refine gr_aload_n dL_law_1086 rfl rfl ?_
        refine gr_iload_n dL_law_1087 rfl rfl ?_
        refine gr_iconst dL_law_1088 gk_i_1 ?_
        refine gr_iadd dL_law_1089 ?_
        refine gq_script dL_law_1090 h (fun x157 h => ?_)
        refine gr_aload_n dL_law_1091 rfl rfl ?_
        refine gr_iload_n dL_law_1092 rfl rfl ?_
        refine gr_iconst dL_law_1093 gk_i_2 ?_
        refine gr_iadd dL_law_1094 ?_
        refine gq_script dL_law_1095 h (fun x158 h => ?_)
        obtain ⟨x159, hx159, h⟩ := gn_bd h
        refine gc_VI (c_X4_lots hx159) my_X4_lots mv_X4_lots ob_38 ml_L_153 rfl rfl ⟨Nat.le_of_ble_eq_true rfl, Nat.le_of_ble_eq_true rfl⟩ (Nat.le_of_ble_eq_true rfl) dL_law_1096 (fun fx159 => ?_)
        refine gr_icmp_eq (tgt := 1218) dL_law_1099 (by decide) h (fun _ h => ?_) (fun _ h => ?_)
        · refine gr_iinc (lv' := [some (.ref 101), some (.ref 0), some (.ref 38), some (.int (v3 + (6 : Int32)))]) dL_law_1218 rfl gk_i_6 (by decide) rfl ?_
          refine gr_goto (tgt := 18) dL_law_1221 (by decide) ?_
          exact ih _ _ h
        · refine gr_iconst dL_law_1102 gk_i_0 ?_
          exact gq_retIM dL_law_1103 rfl h
      refine gn_sw h (fun hs34 h => ?_) (fun hs34 h => ?_)
      · refine gr_tsIn (tgt := 1104) dL_law_33 hs34 (by decide) (by decide) rfl (by decide) ?_
        refine gr_aload_n dL_law_1104 rfl rfl ?_
        obtain ⟨x160, hx160, h⟩ := gn_bd h
        refine gc_VI (c_X3_asked hx160) my_X3_asked mv_X3_asked ob_0 ml_L_154 rfl rfl ⟨Nat.le_of_ble_eq_true rfl, Nat.le_of_ble_eq_true rfl⟩ (Nat.le_of_ble_eq_true rfl) dL_law_1105 (fun fx160 => ?_)
        refine gr_aload_n dL_law_1108 rfl rfl ?_
        obtain ⟨x161, hx161, h⟩ := gn_bd h
        refine gc_VI (c_X4_asked hx161) my_X4_asked mv_X4_asked ob_38 ml_L_157 rfl rfl ⟨Nat.le_of_ble_eq_true rfl, Nat.le_of_ble_eq_true rfl⟩ (Nat.le_of_ble_eq_true rfl) dL_law_1109 (fun fx161 => ?_)
        refine gr_icmp_eq (tgt := 1218) dL_law_1112 (by decide) h (fun _ h => ?_) (fun _ h => ?_)
        · refine gr_iinc (lv' := [some (.ref 101), some (.ref 0), some (.ref 38), some (.int (v3 + (6 : Int32)))]) dL_law_1218 rfl gk_i_6 (by decide) rfl ?_
          refine gr_goto (tgt := 18) dL_law_1221 (by decide) ?_
          exact ih _ _ h
        · refine gr_iconst dL_law_1115 gk_i_0 ?_
          exact gq_retIM dL_law_1116 rfl h
      refine gn_sw h (fun hs35 h => ?_) (fun hs35 h => ?_)
      · refine gr_tsIn (tgt := 1117) dL_law_33 hs35 (by decide) (by decide) rfl (by decide) ?_
        refine gr_aload_n dL_law_1117 rfl rfl ?_
        obtain ⟨x162, hx162, h⟩ := gn_bd h
        refine gc_VL (c_X3_upper hx162) my_X3_upper mv_X3_upper ob_0 ml_L_158 rfl rfl ⟨Nat.le_of_ble_eq_true rfl, Nat.le_of_ble_eq_true rfl⟩ (Nat.le_of_ble_eq_true rfl) dL_law_1118 (fun fx162 => ?_)
        refine gr_aload_n dL_law_1121 rfl rfl ?_
        obtain ⟨x163, hx163, h⟩ := gn_bd h
        refine gc_VL (c_X4_upper hx163) my_X4_upper mv_X4_upper ob_38 ml_L_162 rfl rfl ⟨Nat.le_of_ble_eq_true rfl, Nat.le_of_ble_eq_true rfl⟩ (Nat.le_of_ble_eq_true rfl) dL_law_1122 (fun fx163 => ?_)
        refine gr_lcmp dL_law_1125 ?_
        refine gr_if_eq (tgt := 1218) dL_law_1126 (by decide) h (fun _ h => ?_) (fun _ h => ?_)
        · refine gr_iinc (lv' := [some (.ref 101), some (.ref 0), some (.ref 38), some (.int (v3 + (6 : Int32)))]) dL_law_1218 rfl gk_i_6 (by decide) rfl ?_
          refine gr_goto (tgt := 18) dL_law_1221 (by decide) ?_
          exact ih _ _ h
        · refine gr_iconst dL_law_1129 gk_i_0 ?_
          exact gq_retIM dL_law_1130 rfl h
      refine gn_sw h (fun hs36 h => ?_) (fun hs36 h => ?_)
      · refine gr_tsIn (tgt := 1131) dL_law_33 hs36 (by decide) (by decide) rfl (by decide) ?_
        refine gr_aload_n dL_law_1131 rfl rfl ?_
        obtain ⟨x164, hx164, h⟩ := gn_bd h
        refine gc_VL (c_X3_lower hx164) my_X3_lower mv_X3_lower ob_0 ml_L_163 rfl rfl ⟨Nat.le_of_ble_eq_true rfl, Nat.le_of_ble_eq_true rfl⟩ (Nat.le_of_ble_eq_true rfl) dL_law_1132 (fun fx164 => ?_)
        refine gr_aload_n dL_law_1135 rfl rfl ?_
        obtain ⟨x165, hx165, h⟩ := gn_bd h
        refine gc_VL (c_X4_lower hx165) my_X4_lower mv_X4_lower ob_38 ml_L_166 rfl rfl ⟨Nat.le_of_ble_eq_true rfl, Nat.le_of_ble_eq_true rfl⟩ (Nat.le_of_ble_eq_true rfl) dL_law_1136 (fun fx165 => ?_)
        refine gr_lcmp dL_law_1139 ?_
        refine gr_if_eq (tgt := 1218) dL_law_1140 (by decide) h (fun _ h => ?_) (fun _ h => ?_)
        · refine gr_iinc (lv' := [some (.ref 101), some (.ref 0), some (.ref 38), some (.int (v3 + (6 : Int32)))]) dL_law_1218 rfl gk_i_6 (by decide) rfl ?_
          refine gr_goto (tgt := 18) dL_law_1221 (by decide) ?_
          exact ih _ _ h
        · refine gr_iconst dL_law_1143 gk_i_0 ?_
          exact gq_retIM dL_law_1144 rfl h
      refine gn_sw h (fun hs37 h => ?_) (fun hs37 h => ?_)
      · refine gr_tsIn (tgt := 1145) dL_law_33 hs37 (by decide) (by decide) rfl (by decide) ?_
        refine gr_aload_n dL_law_1145 rfl rfl ?_
        refine gr_aload_n dL_law_1146 rfl rfl ?_
        refine gr_iload_n dL_law_1147 rfl rfl ?_
        refine gr_iconst dL_law_1148 gk_i_1 ?_
        refine gr_iadd dL_law_1149 ?_
        refine gq_script dL_law_1150 h (fun x166 h => ?_)
        obtain ⟨x167, hx167, h⟩ := gn_bd h
        refine gc_VI (c_X3_count hx167) my_X3_count mv_X3_count ob_0 ml_L_167 rfl rfl ⟨Nat.le_of_ble_eq_true rfl, Nat.le_of_ble_eq_true rfl⟩ (Nat.le_of_ble_eq_true rfl) dL_law_1151 (fun fx167 => ?_)
        refine gr_aload_n dL_law_1154 rfl rfl ?_
        refine gr_aload_n dL_law_1155 rfl rfl ?_
        refine gr_iload_n dL_law_1156 rfl rfl ?_
        refine gr_iconst dL_law_1157 gk_i_1 ?_
        refine gr_iadd dL_law_1158 ?_
        refine gq_script dL_law_1159 h (fun x168 h => ?_)
        obtain ⟨x169, hx169, h⟩ := gn_bd h
        refine gc_VI (c_X4_count hx169) my_X4_count mv_X4_count ob_38 ml_L_170 rfl rfl ⟨Nat.le_of_ble_eq_true rfl, Nat.le_of_ble_eq_true rfl⟩ (Nat.le_of_ble_eq_true rfl) dL_law_1160 (fun fx169 => ?_)
        refine gr_icmp_eq (tgt := 1218) dL_law_1163 (by decide) h (fun _ h => ?_) (fun _ h => ?_)
        · refine gr_iinc (lv' := [some (.ref 101), some (.ref 0), some (.ref 38), some (.int (v3 + (6 : Int32)))]) dL_law_1218 rfl gk_i_6 (by decide) rfl ?_
          refine gr_goto (tgt := 18) dL_law_1221 (by decide) ?_
          exact ih _ _ h
        · refine gr_iconst dL_law_1166 gk_i_0 ?_
          exact gq_retIM dL_law_1167 rfl h
      refine gn_sw h (fun hs38 h => ?_) (fun hs38 h => ?_)
      · refine gr_tsIn (tgt := 1168) dL_law_33 hs38 (by decide) (by decide) rfl (by decide) ?_
        refine gr_aload_n dL_law_1168 rfl rfl ?_
        obtain ⟨x170, hx170, h⟩ := gn_bd h
        refine gc_VI (c_X3_finding hx170) my_X3_finding mv_X3_finding ob_0 ml_L_171 rfl rfl ⟨Nat.le_of_ble_eq_true rfl, Nat.le_of_ble_eq_true rfl⟩ (Nat.le_of_ble_eq_true rfl) dL_law_1169 (fun fx170 => ?_)
        refine gr_aload_n dL_law_1172 rfl rfl ?_
        obtain ⟨x171, hx171, h⟩ := gn_bd h
        refine gc_VI (c_X4_finding hx171) my_X4_finding mv_X4_finding ob_38 ml_L_174 rfl rfl ⟨Nat.le_of_ble_eq_true rfl, Nat.le_of_ble_eq_true rfl⟩ (Nat.le_of_ble_eq_true rfl) dL_law_1173 (fun fx171 => ?_)
        refine gr_icmp_eq (tgt := 1218) dL_law_1176 (by decide) h (fun _ h => ?_) (fun _ h => ?_)
        · refine gr_iinc (lv' := [some (.ref 101), some (.ref 0), some (.ref 38), some (.int (v3 + (6 : Int32)))]) dL_law_1218 rfl gk_i_6 (by decide) rfl ?_
          refine gr_goto (tgt := 18) dL_law_1221 (by decide) ?_
          exact ih _ _ h
        · refine gr_iconst dL_law_1179 gk_i_0 ?_
          exact gq_retIM dL_law_1180 rfl h
      refine gn_sw h (fun hs39 h => ?_) (fun hs39 h => ?_)
      · refine gr_tsIn (tgt := 1181) dL_law_33 hs39 (by decide) (by decide) rfl (by decide) ?_
        refine gr_aload_n dL_law_1181 rfl rfl ?_
        refine gr_aload_n dL_law_1182 rfl rfl ?_
        refine gr_iload_n dL_law_1183 rfl rfl ?_
        refine gr_iconst dL_law_1184 gk_i_1 ?_
        refine gr_iadd dL_law_1185 ?_
        refine gq_script dL_law_1186 h (fun x172 h => ?_)
        obtain ⟨x173, hx173, h⟩ := gn_bd h
        refine gc_VI (c_X3_findings hx173) my_X3_findings mv_X3_findings ob_0 ml_L_175 rfl rfl ⟨Nat.le_of_ble_eq_true rfl, Nat.le_of_ble_eq_true rfl⟩ (Nat.le_of_ble_eq_true rfl) dL_law_1187 (fun fx173 => ?_)
        refine gr_aload_n dL_law_1190 rfl rfl ?_
        refine gr_aload_n dL_law_1191 rfl rfl ?_
        refine gr_iload_n dL_law_1192 rfl rfl ?_
        refine gr_iconst dL_law_1193 gk_i_1 ?_
        refine gr_iadd dL_law_1194 ?_
        refine gq_script dL_law_1195 h (fun x174 h => ?_)
        obtain ⟨x175, hx175, h⟩ := gn_bd h
        refine gc_VI (c_X4_findings hx175) my_X4_findings mv_X4_findings ob_38 ml_L_178 rfl rfl ⟨Nat.le_of_ble_eq_true rfl, Nat.le_of_ble_eq_true rfl⟩ (Nat.le_of_ble_eq_true rfl) dL_law_1196 (fun fx175 => ?_)
        refine gr_icmp_eq (tgt := 1218) dL_law_1199 (by decide) h (fun _ h => ?_) (fun _ h => ?_)
        · refine gr_iinc (lv' := [some (.ref 101), some (.ref 0), some (.ref 38), some (.int (v3 + (6 : Int32)))]) dL_law_1218 rfl gk_i_6 (by decide) rfl ?_
          refine gr_goto (tgt := 18) dL_law_1221 (by decide) ?_
          exact ih _ _ h
        · refine gr_iconst dL_law_1202 gk_i_0 ?_
          exact gq_retIM dL_law_1203 rfl h
      refine gn_sw h (fun hs40 h => ?_) (fun hs40 h => ?_)
      · refine gr_tsIn (tgt := 1204) dL_law_33 hs40 (by decide) (by decide) rfl (by decide) ?_
        refine gr_aload_n dL_law_1204 rfl rfl ?_
        obtain ⟨x176, hx176, h⟩ := gn_bd h
        refine gc_VL (c_X3_digest hx176) my_X3_digest mv_X3_digest ob_0 ml_L_179 rfl rfl ⟨Nat.le_of_ble_eq_true rfl, Nat.le_of_ble_eq_true rfl⟩ (Nat.le_of_ble_eq_true rfl) dL_law_1205 (fun fx176 => ?_)
        refine gr_aload_n dL_law_1208 rfl rfl ?_
        obtain ⟨x177, hx177, h⟩ := gn_bd h
        refine gc_VL (c_X4_digest hx177) my_X4_digest mv_X4_digest ob_38 ml_L_182 rfl rfl ⟨Nat.le_of_ble_eq_true rfl, Nat.le_of_ble_eq_true rfl⟩ (Nat.le_of_ble_eq_true rfl) dL_law_1209 (fun fx177 => ?_)
        refine gr_lcmp dL_law_1212 ?_
        refine gr_if_eq (tgt := 1218) dL_law_1213 (by decide) h (fun _ h => ?_) (fun _ h => ?_)
        · refine gr_iinc (lv' := [some (.ref 101), some (.ref 0), some (.ref 38), some (.int (v3 + (6 : Int32)))]) dL_law_1218 rfl gk_i_6 (by decide) rfl ?_
          refine gr_goto (tgt := 18) dL_law_1221 (by decide) ?_
          exact ih _ _ h
        · refine gr_iconst dL_law_1216 gk_i_0 ?_
          exact gq_retIM dL_law_1217 rfl h
      refine gr_tsOut (tgt := 1218) dL_law_33 (by have := gn_out (x := (x1 &&& (63 : Int32))) 41 0 (fun j hj => match j, hj with | 0, _ => hs0 | 1, _ => hs1 | 2, _ => hs2 | 3, _ => hs3 | 4, _ => hs4 | 5, _ => hs5 | 6, _ => hs6 | 7, _ => hs7 | 8, _ => hs8 | 9, _ => hs9 | 10, _ => hs10 | 11, _ => hs11 | 12, _ => hs12 | 13, _ => hs13 | 14, _ => hs14 | 15, _ => hs15 | 16, _ => hs16 | 17, _ => hs17 | 18, _ => hs18 | 19, _ => hs19 | 20, _ => hs20 | 21, _ => hs21 | 22, _ => hs22 | 23, _ => hs23 | 24, _ => hs24 | 25, _ => hs25 | 26, _ => hs26 | 27, _ => hs27 | 28, _ => hs28 | 29, _ => hs29 | 30, _ => hs30 | 31, _ => hs31 | 32, _ => hs32 | 33, _ => hs33 | 34, _ => hs34 | 35, _ => hs35 | 36, _ => hs36 | 37, _ => hs37 | 38, _ => hs38 | 39, _ => hs39 | 40, _ => hs40 | j + 41, hj => absurd hj (by omega)); omega) (by decide) ?_
      refine gr_iinc (lv' := [some (.ref 101), some (.ref 0), some (.ref 38), some (.int (v3 + (6 : Int32)))]) dL_law_1218 rfl gk_i_6 (by decide) rfl ?_
      refine gr_goto (tgt := 18) dL_law_1221 (by decide) ?_
      exact ih _ _ h
def f_law (n L : Nat) (xs : Nat → Int32) (m : gn_M) : Option (Int32 × gn_M) := L_L_law_18 L xs n (fun (m178 : gn_M) => some ((1 : Int32), m178)) n (0 : Int32) m
set_option maxRecDepth 100000 in
set_option maxHeartbeats 4000000 in
theorem c_law {n L : Nat} {xs : Nat → Int32} {m : gn_M} {v : Int32 × gn_M} (h : f_law n L xs m = some v) : gn_Go RL code 4 9 314 (some .boolean) (some (L, xs)) 16 [some (.ref 101), some (.ref 0), some (.ref 38), none] [] m (some (.int v.1)) v.2 := by
  rw [f_law] at h
  refine gr_iconst dL_law_16 gk_i_0 ?_
  refine gr_istore_n (lv' := [some (.ref 101), some (.ref 0), some (.ref 38), some (.int (0 : Int32))]) dL_law_17 rfl (by decide) rfl ?_
  refine l_L_law_18 (fun m178 h => ?_) _ _ _ h
  refine gr_iconst dL_law_1224 gk_i_1 ?_
  exact gq_retIM dL_law_1225 rfl h
