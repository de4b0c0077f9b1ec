/-! PURE: rows -/
theorem gp_rc {m : gn_M} (h : gp_row m) (a : Int32) : ((∀ m', f_X2_numbers_r m' a = some (nI 0)) ∧ f_X4_isRow a = some (nI 0)) ∨ ∃ r : Nat, r < 6 ∧ a = nI r ∧ (∀ m', f_X2_numbers_r m' (nI r) = some (nI 1)) ∧ f_X4_isRow (nI r) = some (nI 1) ∧ (m.1 3 r = -1 ∨ ∃ s : Nat, s ≤ 40 ∧ m.1 3 r = nI s) := by
  rcases gp_ix a 6 (by decide) with q | ⟨r, hr, rfl⟩ | ⟨q1, q2⟩
  · exact Or.inl ⟨fun m' => by simp [f_X2_numbers_r, q]; rfl, by simp [f_X4_isRow, f_X4_in, q]; rfl⟩
  · refine Or.inr ⟨r, hr, rfl, fun m' => ?_, ?_, (h.2 r hr).2.1⟩
    · simp (disch := omega) [f_X2_numbers_r, gp_lit, gp_lt, hr]
    · simp (disch := omega) [f_X4_isRow, f_X4_in, gp_lit, gp_lt, show ¬ 5 < r by omega]
  · refine Or.inl ⟨fun m' => by simp [f_X2_numbers_r, q1, show ¬ a < 6 from q2]; rfl, ?_⟩
    have h5 : (5 : Int32) < a := by
      obtain ⟨j, hj, rfl⟩ := nI_of q1
      rw [gp_lt (by omega) (by decide)] at q2
      show nI 5 < nI j
      rw [gp_lt (by decide) (by omega)]
      omega
    simp [f_X4_isRow, f_X4_in, q1, h5]
    rfl
/-- a finding, told by both -/
theorem gp_both {m : gn_M} (h : gp_rel m) {f : Nat} (hf : f < 6) : ∃ m2, f_X4_find (gp_fc m f) (nI f) = some (-3, m2) ∧ gp_rel m2 := ⟨_, gp_find hf, gp_rel_find h hf⟩
theorem gp_fc_ne {m : gn_M} {f k : Nat} (h0 : k ≠ 0) (h26 : k ≠ 26) : (gp_fc m f).1 k = m.1 k := by
  unfold gp_fc
  rw [gp_une h26, gp_une h0]
theorem op_tear {m : gn_M} (h : gp_rel m) (a : Int32) : ∃ r m1 m2, f_X3_tear m a = some (r, m1) ∧ f_X4_tear m1 a = some (r, m2) ∧ gp_rel m2 := by
  rcases gp_rc h.1 a with ⟨q1, q2⟩ | ⟨r, hr, rfl, q1, q2, q3 | ⟨s, hs, q3⟩⟩
  · exact ⟨-1, m, m, by simp [f_X3_tear, f_X3_refusalOfStrip_r, q1, gp_lit, gp_m1e], by simp [f_X4_tear, q2, gp_lit], h⟩
  · obtain ⟨m2, e2, h2⟩ := gp_both h (f := 1) (by decide)
    refine ⟨-3, gp_fc m 1, m2, ?_, ?_, h2⟩
    · simp (disch := omega) [f_X3_tear, f_X3_refusalOfStrip_r, q1, f_X2_missing_r, gp_rd, q3, gp_lit, gp_m1lt, gp_found, gp_eq, gp_m3e]
    · have e := (h.1.2 r hr).1
      simp (disch := omega) [f_X4_tear, q2, gp_rd, gp_fc_ne, e, q3, gp_lit, gp_m1lt, gp_eq, e2]
  · refine ⟨1, gn_up m 3 r (-1), gn_up (gn_up m 3 r (-1)) 40 r (-1), ?_, ?_, ?_⟩
    · simp (disch := omega) [f_X3_tear, f_X3_refusalOfStrip_r, q1, f_X2_missing_r, gp_rd, gp_wr, q3, gp_lit, gp_lt, gp_eq]
    · have e := (h.1.2 r hr).1
      simp (disch := omega) [f_X4_tear, q2, gp_rd, gp_wr, gp_une, e, q3, gp_lit, gp_lt, gp_eq]
    · obtain ⟨h1, h2, h3, h4⟩ := h
      refine ⟨⟨h1.1, fun r' hr' => ?_⟩, h2.cg rfl rfl rfl rfl (fun t ht => ?_), h3, h4.cg rfl rfl rfl (fun p hp => ?_) rfl rfl rfl rfl rfl rfl rfl (fun _ _ => rfl) (fun _ _ => rfl) rfl rfl rfl⟩
      · obtain ⟨k1, k2, k3⟩ := h1.2 r' hr'
        by_cases e : r' = r
        · subst e
          refine ⟨by simp [gp_u], Or.inl (by simp [gp_u]), fun i hi => ?_⟩
          simp (disch := omega) only [gp_une]
          exact k3 i hi
        · refine ⟨by simp [gp_u, e, k1], by simpa [gp_u, e] using k2, fun i hi => ?_⟩
          simp (disch := omega) only [gp_une]
          exact k3 i hi
      · simp (disch := omega) only [gp_une]
      · simp (disch := omega) only [gp_une]
