/-! PURE: gate -/
theorem op_gate {n : Nat} (hn : 5000 ≤ n) {m : gn_M} (h : gp_rel m) (a : Int32) : ∃ r m1 m2, f_X3_gate n m a = some (r, m1) ∧ f_X4_gate n m1 a = some (r, m2) ∧ gp_rel m2 := by
  rcases gp_tc h.2.1 a with ⟨q1, q2⟩ | ⟨r, hr, rfl, q1, q2, q3 | ⟨s, hs, q3⟩⟩
  · exact ⟨-1, m, m, by simp [f_X3_gate, f_X3_refusalOfStrip_t, q1, gp_lit, gp_m1e], by simp [f_X4_gate, q2, gp_lit], h⟩
  · obtain ⟨m2, e2, h2⟩ := gp_both h (f := 1) (by decide)
    refine ⟨-3, gp_fc m 1, m2, ?_, ?_, h2⟩
    · simp (disch := omega) [f_X3_gate, f_X3_refusalOfStrip_t, q1, f_X2_missing_t, gp_rd, q3, gp_lit, gp_m1lt, gp_found, gp_eq, gp_m3e]
    · have e := (h.2.1.2 r hr).1
      simp (disch := omega) [f_X4_gate, q2, gp_rd, gp_fc_ne, e, q3, gp_lit, gp_m1lt, gp_eq, e2]
  · have e := (h.2.1.2 r hr).1
    have nns : (nI s < nI 0) = False := gp_nn (by omega)
    obtain ⟨z1, m2, z2, z3, -, z5⟩ := gp_rdB hn h hr hs q3
    by_cases c9 : (gp_prs (m.1 (16 + r)) s 61 0 0).1 = -9
    · have z5 := z5 c9
      obtain ⟨P, hP⟩ : ∃ P, P = (gp_prs (m.1 (16 + r)) s 61 0 0).2 := ⟨_, rfl⟩
      rw [← hP, Nat.zero_add] at z5
      have hpp : gp_prs (m.1 (16 + r)) s 61 0 0 = (-9, P) := by rw [hP, ← c9]
      have ok := gp_prs_ok (X := m.1 (16 + r)) (z := s) 61 0 0
      rw [← hP] at ok
      have hK : ∀ j (w : j < P.length), (fun j => (gp_kI (m.1 (16 + r) (P.getD j 0))).toNatClampNeg) j < 6 ∧ gp_kI (m.1 (16 + r) P[j]) = nI ((fun j => (gp_kI (m.1 (16 + r) (P.getD j 0))).toNatClampNeg) j) := fun j w => by
        have gd : P.getD j 0 = P[j] := by simp [w]
        obtain ⟨k, k1, k2⟩ := gp_kI_lt (ok P[j] (List.getElem_mem w)).1
        dsimp only
        rw [gd, k2, gp_cl (by omega)]
        exact ⟨k1, rfl⟩
      have hW : ∀ j (w : j < P.length), (fun j => (m.1 (16 + r) (P.getD j 0 + 1) - nI 48).toNatClampNeg) j ≤ 9 ∧ m.1 (16 + r) (P[j] + 1) - nI 48 = nI ((fun j => (m.1 (16 + r) (P.getD j 0 + 1) - nI 48).toNatClampNeg) j) := fun j w => by
        have gd : P.getD j 0 = P[j] := by simp [w]
        obtain ⟨k, k1, k2⟩ := gp_fgv (ok P[j] (List.getElem_mem w)).2.1
        dsimp only
        rw [gd, k2, gp_cl (by omega)]
        exact ⟨k1, rfl⟩
      have hF : ∀ j (w : j < P.length), (fun j => (m.1 (16 + r) (P.getD j 0 + 2) - nI 48).toNatClampNeg) j ≤ 9 ∧ m.1 (16 + r) (P[j] + 2) - nI 48 = nI ((fun j => (m.1 (16 + r) (P.getD j 0 + 2) - nI 48).toNatClampNeg) j) := fun j w => by
        have gd : P.getD j 0 = P[j] := by simp [w]
        obtain ⟨k, k1, k2⟩ := gp_fgv (ok P[j] (List.getElem_mem w)).2.2
        dsimp only
        rw [gd, k2, gp_cl (by omega)]
        exact ⟨k1, rfl⟩
      generalize (fun j => (gp_kI (m.1 (16 + r) (P.getD j 0))).toNatClampNeg) = K at hK
      generalize (fun j => (m.1 (16 + r) (P.getD j 0 + 1) - nI 48).toNatClampNeg) = Wt at hW
      generalize (fun j => (m.1 (16 + r) (P.getD j 0 + 2) - nI 48).toNatClampNeg) = F at hF
      obtain ⟨M, y1, y2, y3, y4, y5⟩ := gp_gatC hn hs (a := 16 + r) ⟨by omega, by omega, by omega, by omega, by omega⟩ hpp z5.2.2 hK (fun j w => (hW j w).2) hF
      obtain ⟨M1, hM1⟩ : ∃ x, x = gp_rg M 23 0 3 (-nI 1) := ⟨_, rfl⟩
      have g1 : ∀ k, k ≠ 23 → M1.1 k = M.1 k := fun k hk => by rw [hM1, gp_rg_ne hk]
      have g2 : ∀ k, k ≠ 7 → k ≠ 27 → k ≠ 28 → k ≠ 29 → k ≠ 30 → k ≠ 31 → k ≠ 23 → M1.1 k = m.1 k := fun k k1 k2 k3 k4 k5 k6 k7 => by rw [g1 k k7, y4 k k1 k2 k3 k4 k5 k6]
      have e42 : M1.1 42 r = nI s := by rw [g2 42 (by decide) (by decide) (by decide) (by decide) (by decide) (by decide) (by decide), e]; exact q3
      obtain ⟨m3, x1, x2, x3, x4⟩ := gp_rdL hn (X := m.1 (16 + r)) hr hs 60 0 0 n 61 (gn_up M1 38 14 (nI 0)) (by omega) (by omega) (by omega) (by omega) (by omega) (by rw [gp_une (by decide)]; exact e42) (fun j hj => by rw [gp_une (by decide), g2 43 (by decide) (by decide) (by decide) (by decide) (by decide) (by decide) (by decide)]; exact (h.2.1.2 r hr).2.2 j hj) (by rw [gp_u, if_pos ⟨rfl, rfl⟩])
      rw [hpp] at x1 x3 x4
      have x4 := (x4 rfl).1
      dsimp only at x1 x3 x4
      rw [Nat.zero_add] at x4
      obtain ⟨N, w1, w2, w3, w4, w5, w6, w7⟩ := gp_gatM hn hr hs e42 q2 x1 x2 x3 rfl x4 z5.2.2 hK (fun j w => (hW j w).2) hF
      have yg : M1.1 7 6 = nI P.length := by rw [g1 7 (by decide)]; exact y2.1.1
      refine ⟨nI P.length, M1, N, ?_, w1, ?_⟩
      · rw [c9] at z1
        have z1' : f_X3_faultIn n m (16 + r) (nI s) = some (-nI 9) := z1
        simp (disch := omega) only [f_X3_gate, f_X3_refusalOfStrip_t, q1, f_X2_missing_t, gp_rd, gp_ra, q3, gp_lit, nns, gp_eq, z1', Option.bind_some, if_true, if_false, Nat.one_ne_zero, y1, gp_fill, ← hM1, yg]
      · have fr : ∀ k, k ≠ 7 → k ≠ 23 → k ≠ 27 → k ≠ 28 → k ≠ 29 → k ≠ 30 → k ≠ 31 → k ≠ 38 → k ≠ 45 → k ≠ 46 → k ≠ 47 → k ≠ 48 → k ≠ 50 → N.1 k = m.1 k := fun k a1 a2 a3 a4 a5 a6 a7 a8 a9 a10 a11 a12 a13 => by rw [w4 k a8 a9 a10 a11 a12 a13, g2 k a1 a3 a4 a5 a6 a7 a2]
        have fN : ∀ k, k ≠ 38 → k ≠ 45 → k ≠ 46 → k ≠ 47 → k ≠ 48 → k ≠ 50 → k ≠ 23 → N.1 k = M.1 k := fun k a1 a2 a3 a4 a5 a6 a7 => by rw [w4 k a1 a2 a3 a4 a5 a6, g1 k a7]
        have n7 := fN 7 (by decide) (by decide) (by decide) (by decide) (by decide) (by decide) (by decide)
        have s38 := g2 38 (by decide) (by decide) (by decide) (by decide) (by decide) (by decide) (by decide)
        refine ⟨h.1.fr (fun k hk => fr k (by omega) (by omega) (by omega) (by omega) (by omega) (by omega) (by omega) (by omega) (by omega) (by omega) (by omega) (by omega) (by omega)), h.2.1.fr (fun k hk => fr k (by omega) (by omega) (by omega) (by omega) (by omega) (by omega) (by omega) (by omega) (by omega) (by omega) (by omega) (by omega) (by omega)), h.2.2.1.fr (by rw [w5, s38]) (by rw [fr 0] <;> decide) (by rw [w6, s38]) (by rw [fr 0] <;> decide) (by rw [w7, hM1]; exact y5) (by rw [fr 39] <;> decide) (by rw [fr 26] <;> decide), ⟨P.length, K, Wt, fun j => gp_t0 P.length (F j) j, 0, fun _ => 0, ⟨Or.inr ⟨z5.2.1, z5.2.2⟩, by rw [n7]; exact y2.1.1, w2.1.1, fun i hi => ⟨(hK i hi).1, ?_, (w2.2 i hi).1, (hW i hi).1, ?_, (w2.2 i hi).2.1, gp_t0l.1, gp_t0l.2, ?_⟩, fun c hc => ?_⟩, ⟨by omega, fun _ => rfl, by rw [n7]; exact y2.1.2.1, w2.1.2.1, fun k hk => by omega, ⟨fun i hi => ?_, ?_, ?_, ?_⟩, fun k hk => ?_⟩, fun p hp => ?_⟩⟩
        · rw [fN 27] <;> first | exact (y2.2.1 i hi).1 | decide
        · rw [fN 28] <;> first | exact (y2.2.1 i hi).2.1 | decide
        · rw [fN 29] <;> first | exact y3 i hi | decide
        · rw [fN 31] <;> first | exact y2.2.2 c hc | decide
        · have := z5.2.2
          simp only [show i < 7 by omega, if_true]
          rw [fN 30] <;> first | exact (y2.2.1 i hi).2.2 | decide
        · show N.1 7 8 = _; rw [n7]; exact y2.1.2.2.1
        · show N.1 7 9 = _; rw [n7]; exact y2.1.2.2.2.1
        · show N.1 7 10 = _; rw [n7]; exact y2.1.2.2.2.2
        · rw [show k = 0 by omega]
          exact ⟨fun i hi => (w2.2 i hi).2.2, w2.1.2.2.1, w2.1.2.2.2.1, w2.1.2.2.2.2⟩
        · have e23 : N.1 23 p = -1 := by
            rw [w4 23 (by decide) (by decide) (by decide) (by decide) (by decide) (by decide), hM1, gp_rg_in (by omega) (by omega)]; rfl
          exact ⟨by rw [w3 p hp, e23], Or.inl e23⟩
    · have c9' : ¬ (gp_prs (m.1 (16 + r)) s 61 0 0).1 = -nI 9 := c9
      refine ⟨-4, m, m2, ?_, ?_, gp_rel_rd h z3⟩
      · simp (disch := omega) [f_X3_gate, f_X3_refusalOfStrip_t, q1, f_X2_missing_t, gp_rd, gp_ra, q3, gp_lit, nns, gp_eq, z1, c9']
      · simp (disch := omega) [f_X4_gate, q2, gp_rd, e, q3, gp_lit, nns, gp_eq, z2, c9']
