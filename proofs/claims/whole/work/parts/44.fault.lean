/-! PURE: fault -/
theorem gp_rel_rd {m m2 : gn_M} {x : Int32} (h : gp_rel m) (f : gp_fR (gn_up m 38 14 x) m2 0) : gp_rel m2 := by
  obtain ⟨f1, f2, f3, f4⟩ := f
  have fr : ∀ k, k ≠ 38 → k ≠ 45 → k ≠ 46 → k ≠ 47 → m2.1 k = m.1 k := fun k h1 h2 h3 h4 => by rw [f1 k h1 h2 h3 h4, gp_une h1]
  have f38 : ∀ j, j ≠ 14 → m2.1 38 j = m.1 38 j := fun j hj => by rw [f2 j hj, gp_u, if_neg (by omega)]
  refine ⟨h.1.fr (fun k hk => fr k (by omega) (by omega) (by omega) (by omega)), h.2.1.fr (fun k hk => fr k (by omega) (by omega) (by omega) (by omega)), h.2.2.1.fr (f38 0 (by decide)) ?_ (f38 2 (by decide)) ?_ (by rw [f4]; rfl) (fr 39 (by decide) (by decide) (by decide) (by decide)) (fr 26 (by decide) (by decide) (by decide) (by decide)), h.2.2.2.cg (fr 7 (by decide) (by decide) (by decide) (by decide)) (f38 10 (by decide)) (f38 16 (by decide)) (fun p hp => fr _ (by omega) (by omega) (by omega) (by omega)) (fr 23 (by decide) (by decide) (by decide) (by decide)) (fr 27 (by decide) (by decide) (by decide) (by decide)) (fr 28 (by decide) (by decide) (by decide) (by decide)) (fr 29 (by decide) (by decide) (by decide) (by decide)) (fr 30 (by decide) (by decide) (by decide) (by decide)) (fr 31 (by decide) (by decide) (by decide) (by decide)) (fr 32 (by decide) (by decide) (by decide) (by decide)) (fun i hi => ?_) (fun i hi => ?_) (fr 48 (by decide) (by decide) (by decide) (by decide)) (fr 49 (by decide) (by decide) (by decide) (by decide)) (fr 50 (by decide) (by decide) (by decide) (by decide))⟩
  · rw [fr 0 (by decide) (by decide) (by decide) (by decide)]
  · rw [fr 0 (by decide) (by decide) (by decide) (by decide)]
  · rw [(f3 i (by omega)).1, gp_une (by decide)]
  · rw [(f3 i (by omega)).2.1, gp_une (by decide)]
/-- both read a text that there is -/
theorem gp_rdB {n : Nat} (hn : 5000 ≤ n) {m : gn_M} (h : gp_rel m) {t z : Nat} (ht : t < 4) (hz : z ≤ 60) (e6 : m.1 6 t = nI z) : f_X3_faultIn n m (16 + t) (nI z) = some (gp_prs (m.1 (16 + t)) z 61 0 0).1 ∧ ∃ m2, f_X4_read n m (nI t) = some ((gp_prs (m.1 (16 + t)) z 61 0 0).1, m2) ∧ gp_fR (gn_up m 38 14 (nI 0)) m2 0 ∧ gp_dR m2 (m.1 (16 + t)) 0 (gp_prs (m.1 (16 + t)) z 61 0 0).2 ∧ ((gp_prs (m.1 (16 + t)) z 61 0 0).1 = -9 → m2.1 38 14 = nI (0 + (gp_prs (m.1 (16 + t)) z 61 0 0).2.length) ∧ 2 ≤ 0 + (gp_prs (m.1 (16 + t)) z 61 0 0).2.length ∧ 0 + (gp_prs (m.1 (16 + t)) z 61 0 0).2.length ≤ 7) := by
  have q := h.2.1.2 t ht
  refine ⟨gp_flL hn hz 60 0 0 n 61 (by omega) (by omega) (by omega) (by omega) (by omega), ?_⟩
  exact gp_rdL hn (X := m.1 (16 + t)) ht hz 60 0 0 n 61 (gn_up m 38 14 (nI 0)) (by omega) (by omega) (by omega) (by omega) (by omega) (by rw [gp_une (by decide), q.1]; exact e6) (fun j hj => by rw [gp_une (by decide)]; exact q.2.2 j hj) (by rw [gp_u, if_pos ⟨rfl, rfl⟩])
theorem op_fault {n : Nat} (hn : 5000 ≤ n) {m : gn_M} (h : gp_rel m) (a : Int32) : ∃ r m1 m2, f_X3_fault n m a = some (r, m1) ∧ f_X4_fault n m1 a = some (r, m2) ∧ gp_rel m2 := by
  rcases gp_tc h.2.1 a with ⟨q1, q2⟩ | ⟨r, hr, rfl, q1, q2, q3 | ⟨s, hs, q3⟩⟩
  · exact ⟨-1, m, m, by simp [f_X3_fault, f_X3_refusalOfStrip_t, q1, gp_lit, gp_m1e], by simp [f_X4_fault, q2, gp_lit], h⟩
  · obtain ⟨m2, e2, h2⟩ := gp_both h (f := 1) (by decide)
    refine ⟨-3, gp_fc m 1, m2, ?_, ?_, h2⟩
    · simp (disch := omega) [f_X3_fault, f_X3_refusalOfStrip_t, q1, f_X2_missing_t, gp_rd, q3, gp_lit, gp_m1lt, gp_found, gp_eq, gp_m3e]
    · have e := (h.2.1.2 r hr).1
      simp (disch := omega) [f_X4_fault, q2, gp_rd, gp_fc_ne, e, q3, gp_lit, gp_m1lt, gp_eq, e2]
  · have e := (h.2.1.2 r hr).1
    have nns : (nI s < nI 0) = False := gp_nn (by omega)
    obtain ⟨z1, m2, z2, z3, -, -⟩ := gp_rdB hn h hr hs q3
    refine ⟨(gp_prs (m.1 (16 + r)) s 61 0 0).1, m, m2, ?_, ?_, gp_rel_rd h z3⟩
    · simp (disch := omega) [f_X3_fault, f_X3_refusalOfStrip_t, q1, f_X2_missing_t, gp_rd, gp_ra, q3, gp_lit, nns, gp_eq, z1]
    · simp (disch := omega) [f_X4_fault, q2, gp_rd, e, q3, gp_lit, nns, gp_eq, z2]
