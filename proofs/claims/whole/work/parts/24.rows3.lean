/-! PURE: rows: lay, at, copy, mean -/
def gp_cr (m : gn_M) (k lo n : Nat) (h : Nat → Int32) : gn_M := (fun a b => if a = k ∧ lo ≤ b ∧ b < lo + n then h (b - lo) else m.1 a b, m.2)
theorem gp_cr_0 {m : gn_M} {k lo : Nat} {h : Nat → Int32} : gp_cr m k lo 0 h = m := by
  refine Prod.ext (funext fun a => funext fun b => ?_) rfl
  simp only [gp_cr]
  rw [if_neg (by omega)]
theorem gp_cr_s {m : gn_M} {k lo i : Nat} {h : Nat → Int32} : gn_up (gp_cr m k lo i h) k (lo + i) (h i) = gp_cr m k lo (i + 1) h := by
  refine Prod.ext (funext fun a => funext fun b => ?_) rfl
  simp only [gp_cr, gn_up]
  by_cases h1 : a = k
  · by_cases h2 : b = lo + i
    · rw [if_pos ⟨h1, h2⟩, if_pos (by omega), show b - lo = i by omega]
    · rw [if_neg (by omega)]
      by_cases h3 : lo ≤ b ∧ b < lo + i
      · rw [if_pos ⟨h1, h3⟩, if_pos (by omega)]
      · rw [if_neg (by omega), if_neg (by omega)]
  · rw [if_neg (by omega), if_neg (by omega), if_neg (by omega)]
theorem gp_cr_ne {m : gn_M} {k lo n a : Nat} {h : Nat → Int32} (hh : a ≠ k) : (gp_cr m k lo n h).1 a = m.1 a := by
  funext b
  simp only [gp_cr]
  rw [if_neg (by omega)]
theorem gp_cr_in {m : gn_M} {k lo n b : Nat} {h : Nat → Int32} (h1 : lo ≤ b) (h2 : b < lo + n) : (gp_cr m k lo n h).1 k b = h (b - lo) := if_pos ⟨rfl, h1, h2⟩
theorem gp_cr_out {m : gn_M} {k lo n b : Nat} {h : Nat → Int32} (h1 : b < lo ∨ lo + n ≤ b) : (gp_cr m k lo n h).1 k b = m.1 k b := by
  simp only [gp_cr]
  rw [if_neg (by omega)]
theorem gp_us {m : gn_M} {k i : Nat} {v : Int32} : (gn_up m k i v).1 k i = v := if_pos ⟨rfl, rfl⟩
theorem gp_ui {m : gn_M} {k i b : Nat} {v : Int32} (h : b ≠ i) : (gn_up m k i v).1 k b = m.1 k b := if_neg (fun q => h q.2)
/-- a place of a row of s: before, within, beyond -/
theorem gp_pc {m : gn_M} {r s : Nat} (hr : r < 6) (hs : s ≤ 40) (q3 : m.1 3 r = nI s) (b : Int32) : (f_X2_reaches_r m (nI r) b (nI 1) = some (nI 0) ∧ f_X4_in b (nI 0) (nI s - nI 1) = some (nI 0)) ∨ ∃ j : Nat, j < s ∧ b = nI j ∧ f_X2_reaches_r m (nI r) (nI j) (nI 1) = some (nI 1) ∧ f_X4_in (nI j) (nI 0) (nI s - nI 1) = some (nI 1) := by
  rcases gp_ix b s (by omega) with q | ⟨j, hj, rfl⟩ | ⟨p1, p2⟩
  · have q : b < nI 0 := q
    exact Or.inl ⟨by simp [f_X2_reaches_r, q, gp_lit], by simp [f_X4_in, q, gp_lit]⟩
  · refine Or.inr ⟨j, hj, rfl, ?_, ?_⟩
    · simp (disch := omega) [f_X2_reaches_r, gp_lit, gp_lt, gp_rd, q3, pk_sub, show ¬ s < j by omega, show ¬ s - j < 1 by omega, show ¬ s - j = 0 by omega]
    · simp (disch := omega) [f_X4_in, gp_lit, gp_lt, pk_sub, show ¬ s - 1 < j by omega]
  · obtain ⟨j, hj, rfl⟩ := nI_of p1
    rw [gp_lt (by omega) (by omega)] at p2
    refine Or.inl ⟨?_, ?_⟩
    · by_cases e : s < j
      · simp (disch := omega) [f_X2_reaches_r, gp_lit, gp_lt, gp_rd, q3, e]
      · have e2 : j = s := by omega
        subst e2
        simp (disch := omega) [f_X2_reaches_r, gp_lit, gp_lt, gp_rd, q3, pk_sub]
    · by_cases e : s = 0
      · subst e
        have : (nI 0 - nI 1 < nI j) := by
          rw [Int32.lt_iff_toInt_lt, nI_toInt (by omega)]
          have : (nI 0 - nI 1).toInt = -1 := by decide
          omega
        simp (disch := omega) [f_X4_in, gp_lit, gp_lt, this]
      · simp (disch := omega) [f_X4_in, gp_lit, gp_lt, pk_sub, show s - 1 < j by omega]
theorem op_at {m : gn_M} (h : gp_rel m) (a b : Int32) : ∃ r m1 m2, f_X3_at m a b = some (r, m1) ∧ f_X4_at m1 a b = some (r, m2) ∧ gp_rel m2 := by
  rcases gp_rc h.1 a with ⟨q1, q2⟩ | ⟨r, hr, rfl, q1, q2, q3 | ⟨s, hs, q3⟩⟩
  · exact ⟨-1, m, m, by simp [f_X3_at, f_X3_refusalOfPlace_r, f_X3_refusalOfStrip_r, q1, gp_lit, gp_m1e], by simp [f_X4_at, q2, gp_lit], h⟩
  · obtain ⟨m2, e2, h2⟩ := gp_both h (f := 1) (by decide)
    refine ⟨-3, gp_fc m 1, m2, ?_, ?_, h2⟩
    · simp (disch := omega) [f_X3_at, f_X3_refusalOfPlace_r, f_X3_refusalOfStrip_r, q1, f_X2_missing_r, gp_rd, q3, gp_lit, gp_m1lt, gp_found, gp_eq, gp_m3e]
    · have e := (h.1.2 r hr).1
      simp (disch := omega) [f_X4_at, q2, gp_rd, gp_fc_ne, e, q3, gp_lit, gp_m1lt, gp_eq, e2]
  · have e := (h.1.2 r hr).1
    rcases gp_pc hr hs q3 b with ⟨p1, p2⟩ | ⟨j, hj, rfl, p1, p2⟩
    · obtain ⟨m2, e2, h2⟩ := gp_both h (f := 2) (by decide)
      have f2 := gp_found (m := m) (f := 2) (by decide)
      refine ⟨-3, gp_fc m 2, m2, ?_, ?_, h2⟩
      · simp (disch := omega) [gp_lit, gp_eq, gp_m1e, gp_m3e, f_X3_at, f_X3_refusalOfPlace_r, f_X3_refusalOfStrip_r, q1, gp_bs, f_X2_missing_r, gp_rd, q3, gp_nn, if_false, p1, f2, show (nI s < nI 0) = False from gp_nn (by omega)]
      · simp (disch := omega) [gp_lit, gp_eq, gp_m1e, gp_m3e, f_X4_at, q2, gp_bs, gp_rd, gp_fc_ne, e, q3, show (nI s < nI 0) = False from gp_nn (by omega), if_false, p2, e2]
    · refine ⟨1, gn_up m 0 10 (m.1 (10 + r) j), gn_up (gn_up m 0 10 (m.1 (10 + r) j)) 38 2 (m.1 (10 + r) j), ?_, ?_, ?_⟩
      · simp (disch := omega) [gp_lit, gp_eq, gp_m1e, gp_m3e, f_X3_at, f_X3_refusalOfPlace_r, f_X3_refusalOfStrip_r, q1, gp_bs, f_X2_missing_r, gp_rd, q3, if_false, p1, show (nI s < nI 0) = False from gp_nn (by omega), gp_ra, f_X3_toldByAsked, gp_pf]
      · have e4 := (h.1.2 r hr).2.2 j (by omega)
        simp (disch := omega) [gp_lit, gp_eq, gp_m1e, gp_m3e, f_X4_at, q2, gp_bs, gp_rd, gp_une, e, q3, show (nI s < nI 0) = False from gp_nn (by omega), if_false, p2, gp_lit, pk_mul, nI_add, e4, f_X4_told, gp_pf]
      · obtain ⟨h1, h2, h3, h4⟩ := h
        refine ⟨h1.fr (fun k hk => ?_), h2.fr (fun k hk => ?_), h3.told (v := m.1 (10 + r) j) rfl rfl rfl rfl rfl rfl rfl, h4.fr (fun k hk => ?_) rfl rfl⟩
        all_goals simp (disch := omega) only [gp_une]
theorem op_lay {m : gn_M} (h : gp_rel m) (a b v : Int32) : ∃ r m1 m2, f_X3_lay m a b v = some (r, m1) ∧ f_X4_lay m1 a b v = some (r, m2) ∧ gp_rel m2 := by
  rcases gp_rc h.1 a with ⟨q1, q2⟩ | ⟨r, hr, rfl, q1, q2, q3 | ⟨s, hs, q3⟩⟩
  · exact ⟨-1, m, m, by simp [f_X3_lay, f_X3_refusalOfPlace_r, f_X3_refusalOfStrip_r, q1, gp_lit, gp_m1e], by simp [f_X4_lay, q2, gp_lit], h⟩
  · obtain ⟨m2, e2, h2⟩ := gp_both h (f := 1) (by decide)
    refine ⟨-3, gp_fc m 1, m2, ?_, ?_, h2⟩
    · simp (disch := omega) [f_X3_lay, f_X3_refusalOfPlace_r, f_X3_refusalOfStrip_r, q1, f_X2_missing_r, gp_rd, q3, gp_lit, gp_m1lt, gp_found, gp_eq, gp_m3e]
    · have e := (h.1.2 r hr).1
      simp (disch := omega) [f_X4_lay, q2, gp_rd, gp_fc_ne, e, q3, gp_lit, gp_m1lt, gp_eq, e2]
  · have e := (h.1.2 r hr).1
    rcases gp_pc hr hs q3 b with ⟨p1, p2⟩ | ⟨j, hj, rfl, p1, p2⟩
    · obtain ⟨m2, e2, h2⟩ := gp_both h (f := 2) (by decide)
      have f2 := gp_found (m := m) (f := 2) (by decide)
      refine ⟨-3, gp_fc m 2, m2, ?_, ?_, h2⟩
      · simp (disch := omega) [gp_lit, gp_eq, gp_m1e, gp_m3e, f_X3_lay, f_X3_refusalOfPlace_r, f_X3_refusalOfStrip_r, q1, gp_bs, f_X2_missing_r, gp_rd, q3, gp_nn, if_false, p1, f2, show (nI s < nI 0) = False from gp_nn (by omega)]
      · simp (disch := omega) [gp_lit, gp_eq, gp_m1e, gp_m3e, f_X4_lay, q2, gp_bs, gp_rd, gp_fc_ne, e, q3, show (nI s < nI 0) = False from gp_nn (by omega), if_false, p2, e2]
    · have e4 := (h.1.2 r hr).2.2 j (by omega)
      refine ⟨1, gn_up (gn_up m (10 + r) j v) 0 10 (m.1 (10 + r) j), gn_up (gn_up (gn_up (gn_up m (10 + r) j v) 0 10 (m.1 (10 + r) j)) 41 (40 * r + j) v) 38 2 (m.1 (10 + r) j), ?_, ?_, ?_⟩
      · simp (disch := omega) [gp_lit, gp_eq, gp_m1e, gp_m3e, f_X3_lay, f_X3_refusalOfPlace_r, f_X3_refusalOfStrip_r, q1, gp_bs, f_X2_missing_r, gp_rd, gp_wr, q3, if_false, p1, show (nI s < nI 0) = False from gp_nn (by omega), gp_ra, f_X3_toldByAsked, gp_pf]
      · simp (disch := omega) [gp_lit, gp_eq, gp_m1e, gp_m3e, f_X4_lay, q2, gp_bs, gp_rd, gp_wr, gp_une, e, q3, show (nI s < nI 0) = False from gp_nn (by omega), if_false, p2, gp_lit, pk_mul, nI_add, e4, f_X4_told, gp_pf]
      · obtain ⟨h1, h2, h3, h4⟩ := h
        refine ⟨⟨?_, fun r' hr' => ?_⟩, h2.fr (fun k hk => ?_), h3.told (v := m.1 (10 + r) j) ?_ ?_ ?_ ?_ rfl ?_ ?_, h4.fr (fun k hk => ?_) ?_ ?_⟩
        · simp (disch := omega) only [gp_une]; exact h1.1
        · obtain ⟨k1, k2, k3⟩ := h1.2 r' hr'
          refine ⟨?_, ?_, fun i hi => ?_⟩
          · simp (disch := omega) only [gp_une]; exact k1
          · simp (disch := omega) only [gp_une]; exact k2
          · by_cases e5 : r' = r ∧ i = j
            · obtain ⟨rfl, rfl⟩ := e5
              simp (disch := omega) only [gp_us, gp_une]
            · by_cases e6 : r' = r
              · subst e6
                simp (disch := omega) only [gp_us, gp_ui, gp_une]
                exact k3 i hi
              · simp (disch := omega) only [gp_us, gp_ui, gp_une]
                exact k3 i hi
        all_goals (simp (disch := omega) only [gp_us, gp_ui, gp_une]; done)
