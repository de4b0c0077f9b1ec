/-! PURE: texts -/
theorem gp_tc {m : gn_M} (h : gp_txt m) (a : Int32) : ((∀ m', f_X2_numbers_t m' a = some (nI 0)) ∧ f_X4_isText a = some (nI 0)) ∨ ∃ r : Nat, r < 4 ∧ a = nI r ∧ (∀ m', f_X2_numbers_t m' (nI r) = some (nI 1)) ∧ f_X4_isText (nI r) = some (nI 1) ∧ (m.1 6 r = -1 ∨ ∃ s : Nat, s ≤ 60 ∧ m.1 6 r = nI s) := by
  rcases gp_ix a 4 (by decide) with q | ⟨r, hr, rfl⟩ | ⟨q1, q2⟩
  · exact Or.inl ⟨fun m' => by simp [f_X2_numbers_t, q]; rfl, by simp [f_X4_isText, f_X4_in, q]; rfl⟩
  · refine Or.inr ⟨r, hr, rfl, fun m' => ?_, ?_, (h.2 r hr).2.1⟩
    · simp (disch := omega) [f_X2_numbers_t, gp_lit, gp_lt, hr]
    · simp (disch := omega) [f_X4_isText, f_X4_in, gp_lit, gp_lt, show ¬ 3 < r by omega]
  · refine Or.inl ⟨fun m' => by simp [f_X2_numbers_t, q1, show ¬ a < 4 from q2]; rfl, ?_⟩
    have h5 : (3 : Int32) < a := by
      obtain ⟨j, hj, rfl⟩ := nI_of q1
      rw [gp_lt (by omega) (by decide)] at q2
      show nI 3 < nI j
      rw [gp_lt (by decide) (by omega)]
      omega
    simp [f_X4_isText, f_X4_in, q1, h5]
    rfl
/-- a place of a row of s: before, within, beyond -/
theorem gp_pct {m : gn_M} {r s : Nat} (hr : r < 4) (hs : s ≤ 60) (q3 : m.1 6 r = nI s) (b : Int32) : (f_X2_reaches_t m (nI r) b (nI 1) = some (nI 0) ∧ f_X4_in b (nI 0) (nI s - nI 1) = some (nI 0)) ∨ ∃ j : Nat, j < s ∧ b = nI j ∧ f_X2_reaches_t m (nI r) (nI j) (nI 1) = some (nI 1) ∧ f_X4_in (nI j) (nI 0) (nI s - nI 1) = some (nI 1) := by
  rcases gp_ix b s (by omega) with q | ⟨j, hj, rfl⟩ | ⟨p1, p2⟩
  · have q : b < nI 0 := q
    exact Or.inl ⟨by simp [f_X2_reaches_t, q, gp_lit], by simp [f_X4_in, q, gp_lit]⟩
  · refine Or.inr ⟨j, hj, rfl, ?_, ?_⟩
    · simp (disch := omega) [f_X2_reaches_t, gp_lit, gp_lt, gp_rd, q3, pk_sub, show ¬ s < j by omega, show ¬ s - j < 1 by omega, show ¬ s - j = 0 by omega]
    · simp (disch := omega) [f_X4_in, gp_lit, gp_lt, pk_sub, show ¬ s - 1 < j by omega]
  · obtain ⟨j, hj, rfl⟩ := nI_of p1
    rw [gp_lt (by omega) (by omega)] at p2
    refine Or.inl ⟨?_, ?_⟩
    · by_cases e : s < j
      · simp (disch := omega) [f_X2_reaches_t, gp_lit, gp_lt, gp_rd, q3, e]
      · have e2 : j = s := by omega
        subst e2
        simp (disch := omega) [f_X2_reaches_t, gp_lit, gp_lt, gp_rd, q3, pk_sub]
    · by_cases e : s = 0
      · subst e
        have : (nI 0 - nI 1 < nI j) := by
          rw [Int32.lt_iff_toInt_lt, nI_toInt (by omega)]
          have : (nI 0 - nI 1).toInt = -1 := by decide
          omega
        simp (disch := omega) [f_X4_in, gp_lit, gp_lt, this]
      · simp (disch := omega) [f_X4_in, gp_lit, gp_lt, pk_sub, show s - 1 < j by omega]
theorem op_text {n : Nat} (hn : 5000 ≤ n) {m : gn_M} (h : gp_rel m) (a b : Int32) : ∃ r m1 m2, f_X3_text n m a b = some (r, m1) ∧ f_X4_text n m1 a b = some (r, m2) ∧ gp_rel m2 := by
  rcases gp_tc h.2.1 a with ⟨q1, q2⟩ | ⟨r, hr, rfl, q1, q2, -⟩
  · exact ⟨-1, m, m, by simp [f_X3_text, f_X3_make_t, q1, gp_lit], by simp [f_X4_text, q2, gp_lit], h⟩
  · have h40 := h.2.1.1
    have q1 : ∀ m', f_X2_numbers_t m' (nI r) = some 1 := q1
    have q2 : f_X4_isText (nI r) = some 1 := q2
    by_cases c1 : (60 : Int32) < b
    · exact ⟨-1, m, m, by simp [f_X3_text, f_X3_make_t, q1, h40, c1], by simp [f_X4_text, q2, c1], h⟩
    · by_cases c2 : b < 0
      · obtain ⟨m2, e2, h2⟩ := gp_both h (f := 5) (by decide)
        have f5 : f_X3_found m 5 = some (-3, gp_fc m 5) := gp_found (by decide)
        have e2 : f_X4_find (gp_fc m 5) 5 = some (-3, m2) := e2
        exact ⟨-3, gp_fc m 5, m2, by simp [f_X3_text, f_X3_make_t, q1, h40, c1, c2, f5], by simp [f_X4_text, q2, c1, c2, e2], h2⟩
      · obtain ⟨s, hs, rfl⟩ := nI_of c2
        have hs40 : s ≤ 60 := by
          have : ¬ nI 60 < nI s := c1
          rw [gp_lt (by decide) (by omega)] at this
          omega
        refine ⟨nI s, gn_up (gp_rg m (16 + r) 0 60 32) 6 r (nI s), gp_rg (gn_up (gn_up (gp_rg m (16 + r) 0 60 32) 6 r (nI s)) 42 r (nI s)) 43 (60 * r) 60 32, ?_, ?_, ?_⟩
        · simp (disch := omega) [f_X3_text, f_X3_make_t, q1, h40, c1, c2, f_X2_spread_t, gp_ra, gp_fill, gp_wr]
        · have key : L_X4_text_34 n (nI r) (nI s) (fun m5 => some (nI s, m5)) n 0 (gn_up (gn_up (gp_rg m (16 + r) 0 60 32) 6 r (nI s)) 42 r (nI s)) = some (nI s, gp_rg (gn_up (gn_up (gp_rg m (16 + r) 0 60 32) 6 r (nI s)) 42 r (nI s)) 43 (60 * r) 60 32) := by
            generalize (gn_up (gn_up (gp_rg m (16 + r) 0 60 32) 6 r (nI s)) 42 r (nI s)) = M
            refine gp_lp0 (Lf := fun f i mm => L_X4_text_34 n (nI r) (nI s) (fun m5 => some (nI s, m5)) f (nI i) mm) (N := 60) (A := fun i => gp_rg M 43 (60 * r) i 32) (fun f i hi => ?_) (fun f => ?_) (by omega) |> fun h => by rw [gp_rg_0] at h; exact h
            · show L_X4_text_34 n (nI r) (nI s) _ (f + 1) (nI i) _ = _
              rw [L_X4_text_34]
              have e32 : vp_nar .byte (32 : Int32) = 32 := by decide
              simp (disch := omega) only [e32]
              simp (disch := omega) only [gp_lit, gp_lt, hi, if_true, nI_add, pk_mul, gp_wr]
              rw [← gp_rg_s]
            · show L_X4_text_34 n (nI r) (nI s) _ (f + 1) (nI 60) _ = _
              rw [L_X4_text_34]
              simp (disch := omega) [gp_lit, gp_lt]
          simp (disch := omega) [f_X4_text, q2, c1, c2, gp_wr]
          exact key
        · obtain ⟨h1, h2, h3, h4⟩ := h
          refine ⟨h1.fr (fun k hk => ?_), ⟨?_, fun r' hr' => ?_⟩, h3.fr ?_ ?_ ?_ ?_ rfl ?_ ?_, h4.fr (fun k hk => ?_) ?_ ?_⟩
          · simp (disch := omega) only [gp_rg_ne, gp_une]
          · simp (disch := omega) only [gp_rg_ne, gp_une]; exact h2.1
          · obtain ⟨k1, k2, k3⟩ := h2.2 r' hr'
            by_cases e : r' = r
            · subst e
              refine ⟨?_, Or.inr ⟨s, hs40, ?_⟩, fun i hi => ?_⟩
              · simp (disch := omega) [gp_rg_ne, gp_u, gp_une]
              · simp (disch := omega) [gp_rg_ne, gp_u, gp_une]
              · rw [gp_rg_in (by omega) (by omega)]
                simp (disch := omega) only [gp_rg_ne, gp_une]
                rw [gp_rg_in (by omega) (by omega)]
            · refine ⟨?_, ?_, fun i hi => ?_⟩
              · simp (disch := omega) [gp_rg_ne, gp_u, gp_une, e, k1]
              · simp (disch := omega) [gp_rg_ne, gp_u, gp_une, e]; exact k2
              · rw [gp_rg_out (by omega)]
                simp (disch := omega) only [gp_rg_ne, gp_une]
                exact k3 i hi
          all_goals simp (disch := omega) only [gp_rg_ne, gp_une]

theorem gp_byte (x : Int32) : vp_nar .byte x.toInt8.toInt32 = x.toInt8.toInt32 := pk_vb x
theorem op_put {m : gn_M} (h : gp_rel m) (a b v : Int32) : ∃ r m1 m2, f_X3_put m a b v = some (r, m1) ∧ f_X4_put m1 a b v = some (r, m2) ∧ gp_rel m2 := by
  rcases gp_tc h.2.1 a with ⟨q1, q2⟩ | ⟨r, hr, rfl, q1, q2, q3 | ⟨s, hs, q3⟩⟩
  · exact ⟨-1, m, m, by simp [f_X3_put, f_X3_refusalOfPlace_t, f_X3_refusalOfStrip_t, q1, gp_lit, gp_m1e], by simp [f_X4_put, q2, gp_lit], h⟩
  · obtain ⟨m2, e2, h2⟩ := gp_both h (f := 1) (by decide)
    refine ⟨-3, gp_fc m 1, m2, ?_, ?_, h2⟩
    · simp (disch := omega) [f_X3_put, f_X3_refusalOfPlace_t, f_X3_refusalOfStrip_t, q1, f_X2_missing_t, gp_rd, q3, gp_lit, gp_m1lt, gp_found, gp_eq, gp_m3e]
    · have e := (h.2.1.2 r hr).1
      simp (disch := omega) [f_X4_put, q2, gp_rd, gp_fc_ne, e, q3, gp_lit, gp_m1lt, gp_eq, e2]
  · have e := (h.2.1.2 r hr).1
    have nns : (nI s < nI 0) = False := gp_nn (by omega)
    rcases gp_pct hr hs q3 b with ⟨p1, p2⟩ | ⟨j, hj, rfl, p1, p2⟩
    · obtain ⟨m2, e2, h2⟩ := gp_both h (f := 2) (by decide)
      have f2 := gp_found (m := m) (f := 2) (by decide)
      refine ⟨-3, gp_fc m 2, m2, ?_, ?_, h2⟩
      · simp (disch := omega) [f_X3_put, f_X3_refusalOfPlace_t, f_X3_refusalOfStrip_t, q1, f_X2_missing_t, gp_rd, q3, gp_lit, gp_eq, gp_m3e, nns, p1, f2]
      · simp (disch := omega) [f_X4_put, q2, gp_rd, gp_fc_ne, e, q3, gp_lit, gp_eq, nns, p2, e2]
    · have e4 := (h.2.1.2 r hr).2.2 j (by omega)
      refine ⟨m.1 (16 + r) j + 1000, gn_up m (16 + r) j v.toInt8.toInt32, gn_up (gn_up m (16 + r) j v.toInt8.toInt32) 43 (60 * r + j) v.toInt8.toInt32, ?_, ?_, ?_⟩
      · simp (disch := omega) [f_X3_put, f_X3_refusalOfPlace_t, f_X3_refusalOfStrip_t, q1, f_X2_missing_t, gp_rd, gp_wr, q3, gp_lit, gp_eq, gp_m3e, nns, p1, gp_ra]
      · simp (disch := omega) [f_X4_put, q2, gp_rd, gp_wr, gp_une, e, q3, gp_lit, gp_eq, nns, p2, pk_mul, nI_add, e4, gp_byte]
      · obtain ⟨h1, h2, h3, h4⟩ := h
        refine ⟨h1.fr (fun k hk => ?_), ⟨?_, fun r' hr' => ?_⟩, h3.fr ?_ ?_ ?_ ?_ rfl ?_ ?_, h4.fr (fun k hk => ?_) ?_ ?_⟩
        · simp (disch := omega) only [gp_une]
        · simp (disch := omega) only [gp_une]; exact h2.1
        · obtain ⟨k1, k2, k3⟩ := h2.2 r' hr'
          refine ⟨?_, ?_, fun i hi => ?_⟩
          · simp (disch := omega) only [gp_une]; exact k1
          · simp (disch := omega) only [gp_une]; exact k2
          · by_cases e5 : r' = r ∧ i = j
            · obtain ⟨rfl, rfl⟩ := e5
              simp (disch := omega) only [gp_us, gp_une]
            · by_cases e6 : r' = r
              · subst e6
                simp (disch := omega) only [gp_us, gp_ui, gp_une]
                exact k3 i hi
              · simp (disch := omega) only [gp_us, gp_ui, gp_une]
                exact k3 i hi
        all_goals (simp (disch := omega) only [gp_us, gp_ui, gp_une]; done)
