/-! PURE: rows: copy, mean -/
theorem gp_subI {a b : Nat} (ha : a < 2147483648) (hb : b < 2147483648) : (nI a - nI b).toInt = (a : Int) - b := by
  have h1 := nI_toInt (n := a) (by omega)
  have h2 := nI_toInt (n := b) (by omega)
  rw [fb_subI (by omega) (by omega), h1, h2]
theorem gp_sublt {a b c : Nat} (ha : a < 2147483648) (hb : b < 2147483648) (hc : c < 2147483648) : (nI a - nI b < nI c) = (a < b + c) := by
  rw [Int32.lt_iff_toInt_lt, gp_subI ha hb, nI_toInt (by omega)]
  exact propext ⟨fun h => by omega, fun h => by omega⟩
theorem gp_pr {m : gn_M} {r s c : Nat} (hr : r < 6) (hs : s ≤ 40) (q3 : m.1 3 r = nI s) (b : Int32) (hc : c < 2147483648) : (f_X2_reaches_r m (nI r) b (nI c) = some (nI 0) ∧ (b < nI 0 ∨ (¬ b < nI 0 ∧ nI s - nI c < b))) ∨ ∃ j : Nat, b = nI j ∧ j + c ≤ s ∧ f_X2_reaches_r m (nI r) (nI j) (nI c) = some (nI 1) ∧ (nI j < nI 0) = False ∧ (nI s - nI c < nI j) = False := by
  by_cases h0 : b < nI 0
  · exact Or.inl ⟨by simp [f_X2_reaches_r, h0, gp_lit], Or.inl h0⟩
  · obtain ⟨j, hj, rfl⟩ := nI_of h0
    by_cases h1 : s < j
    · refine Or.inl ⟨by simp (disch := omega) [f_X2_reaches_r, gp_lit, gp_lt, gp_rd, q3, h1], Or.inr ⟨h0, ?_⟩⟩
      rw [gp_sublt (by omega) hc (by omega)]; omega
    · by_cases h2 : s < j + c
      · refine Or.inl ⟨?_, Or.inr ⟨h0, ?_⟩⟩
        · simp (disch := omega) [f_X2_reaches_r, gp_lit, gp_lt, gp_rd, q3, h1, pk_sub, show s - j < c by omega]
        · rw [gp_sublt (by omega) hc (by omega)]; omega
      · refine Or.inr ⟨j, rfl, by omega, ?_, gp_nn (by omega), ?_⟩
        · simp (disch := omega) [f_X2_reaches_r, gp_lit, gp_lt, gp_rd, q3, h1, pk_sub, show ¬ s - j < c by omega]
        · rw [gp_sublt (by omega) hc (by omega)]; exact eq_false (by omega)
theorem gp_cp_u {m : gn_M} {k0 sp k1 dp n a b : Nat} : (gn_cp m k0 sp k1 dp n).1 a b = if a = k1 then va_cpy (m.1 k0) (m.1 k1) sp dp n b else m.1 a b := rfl
set_option maxHeartbeats 1000000 in
theorem op_copy {n : Nat} (hn : 5000 ≤ n) {m : gn_M} (h : gp_rel m) (a b c d e : Int32) : ∃ r m1 m2, f_X3_copy m a b c d e = some (r, m1) ∧ f_X4_copy n m1 a b c d e = some (r, m2) ∧ gp_rel m2 := by
  have hfd : ∀ f, f < 6 → ∃ m2, f_X4_find (gp_fc m f) (nI f) = some (-3, m2) ∧ gp_rel m2 := fun f hf => gp_both h hf
  have ff : ∀ f, f < 6 → f_X3_found m (nI f) = some (-3, gp_fc m f) := fun f hf => gp_found hf
  rcases gp_rc h.1 a with ⟨q1, q2⟩ | ⟨r, hr, rfl, q1, q2, q3⟩
  · exact ⟨-1, m, m, by simp [f_X3_copy, q1, gp_lit], by simp [f_X4_copy, q2, gp_lit], h⟩
  rcases gp_rc h.1 c with ⟨p1, p2⟩ | ⟨t, ht, rfl, p1, p2, p3⟩
  · exact ⟨-1, m, m, by simp (disch := omega) [f_X3_copy, q1, p1, gp_lit, gp_eq], by simp (disch := omega) [f_X4_copy, q2, p2, gp_lit, gp_eq], h⟩
  have er := (h.1.2 r hr).1
  have et := (h.1.2 t ht).1
  by_cases c1 : e < nI 0
  · obtain ⟨m2, e2, h2⟩ := hfd 5 (by decide)
    exact ⟨-3, gp_fc m 5, m2, by simp (disch := omega) [f_X3_copy, q1, p1, gp_lit, gp_eq, c1, ff], by simp (disch := omega) [f_X4_copy, q2, p2, gp_lit, gp_eq, c1, e2], h2⟩
  obtain ⟨x, hx, rfl⟩ := nI_of c1
  rcases q3 with q3 | ⟨s, hs, q3⟩
  · obtain ⟨m2, e2, h2⟩ := hfd 1 (by decide)
    exact ⟨-3, gp_fc m 1, m2, by simp (disch := omega) [f_X3_copy, q1, p1, gp_lit, gp_eq, c1, ff, f_X2_missing_r, gp_rd, q3, gp_m1lt], by simp (disch := omega) [f_X4_copy, q2, p2, gp_lit, gp_eq, c1, e2, gp_rd, gp_fc_ne, er, q3, gp_m1lt], h2⟩
  have nns : (nI s < nI 0) = False := gp_nn (by omega)
  rcases p3 with p3 | ⟨u, hu, p3⟩
  · obtain ⟨m2, e2, h2⟩ := hfd 1 (by decide)
    exact ⟨-3, gp_fc m 1, m2, by simp (disch := omega) [f_X3_copy, q1, p1, gp_lit, gp_eq, c1, ff, f_X2_missing_r, gp_rd, q3, p3, nns, gp_m1lt], by simp (disch := omega) [f_X4_copy, q2, p2, gp_lit, gp_eq, c1, e2, gp_rd, gp_fc_ne, er, et, q3, p3, nns, gp_m1lt], h2⟩
  have nnu : (nI u < nI 0) = False := gp_nn (by omega)
  rcases gp_pr (c := x) hr hs q3 b (by omega) with ⟨k1, k2⟩ | ⟨i, rfl, hi, k1, k2, k3⟩
  · obtain ⟨m2, e2, h2⟩ := hfd 2 (by decide)
    refine ⟨-3, gp_fc m 2, m2, by simp (disch := omega) [f_X3_copy, q1, p1, gp_lit, gp_eq, c1, ff, f_X2_missing_r, gp_rd, q3, p3, nns, nnu, k1], ?_, h2⟩
    rcases k2 with k2 | ⟨k2, k2'⟩
    · simp (disch := omega) [f_X4_copy, q2, p2, gp_lit, gp_eq, c1, e2, gp_rd, gp_fc_ne, er, et, q3, p3, nns, nnu, k2]
    · simp (disch := omega) [f_X4_copy, q2, p2, gp_lit, gp_eq, c1, e2, gp_rd, gp_fc_ne, er, et, q3, p3, nns, nnu, k2, k2']
  rcases gp_pr (c := x) ht hu p3 d (by omega) with ⟨l1, l2⟩ | ⟨j, rfl, hj, l1, l2, l3⟩
  · obtain ⟨m2, e2, h2⟩ := hfd 2 (by decide)
    refine ⟨-3, gp_fc m 2, m2, by simp (disch := omega) [f_X3_copy, q1, p1, gp_lit, gp_eq, c1, ff, f_X2_missing_r, gp_rd, q3, p3, nns, nnu, k1, l1], ?_, h2⟩
    rcases l2 with l2 | ⟨l2, l2'⟩
    · simp (disch := omega) [f_X4_copy, q2, p2, gp_lit, gp_eq, c1, e2, gp_rd, gp_fc_ne, er, et, q3, p3, nns, nnu, k2, k3, l2]
    · simp (disch := omega) [f_X4_copy, q2, p2, gp_lit, gp_eq, c1, e2, gp_rd, gp_fc_ne, er, et, q3, p3, nns, nnu, k2, k3, l2, l2']
  have nnx : (nI x < nI 0) = False := gp_nn (by omega)
  obtain ⟨M, hM⟩ : ∃ M, M = gn_cp m (10 + r) i (10 + t) j x := ⟨_, rfl⟩
  refine ⟨1, M, gp_cr (gp_cr M 44 0 x (fun y => M.1 41 (40 * r + i + y))) 41 (40 * t + j) x (fun y => M.1 41 (40 * r + i + y)), ?_, ?_, ?_⟩
  · have hac : gn_ac m (10 + r) 40 (nI i) (10 + t) 40 (nI j) (nI x) (fun m12 => some ((1 : Int32), m12)) = some (1, M) := by
      unfold gn_ac
      rw [if_neg, gp_cl (by omega), gp_cl (by omega), gp_cl (by omega), hM]
      rw [gp_cl (by omega), gp_cl (by omega), gp_cl (by omega)]
      have e1 : ¬ nI i < 0 := fun q => (k2 ▸ q : False)
      have e2 : ¬ nI j < 0 := fun q => (l2 ▸ q : False)
      have e3 : ¬ nI x < 0 := fun q => (nnx ▸ q : False)
      simp only [e1, e2, e3, false_or]
      omega
    simp (disch := omega) [f_X3_copy, q1, p1, f_X2_missing_r, gp_rd, q3, p3, gp_lit, gp_eq, c1, nns, nnu, k1, l1, gp_ra]
    exact hac
  · have M40 : M.1 40 = m.1 40 := by rw [hM]; exact gn_cp_1 (by omega)
    have lp1 : ∀ (K : gn_M → Option (Int32 × gn_M)), L_X4_copy_96 n (nI r) (nI i) (nI t) (nI j) (nI x) K n 0 M = K (gp_cr M 44 0 x (fun y => M.1 41 (40 * r + i + y))) := by
      intro K
      refine gp_lp0 (Lf := fun f k mm => L_X4_copy_96 n (nI r) (nI i) (nI t) (nI j) (nI x) K f (nI k) mm) (N := x) (A := fun k => gp_cr M 44 0 k (fun y => M.1 41 (40 * r + i + y))) (fun f k hk => ?_) (fun f => ?_) (by omega) |> fun h => by rw [gp_cr_0] at h; exact h
      · show L_X4_copy_96 n (nI r) (nI i) (nI t) (nI j) (nI x) K (f + 1) (nI k) _ = _
        rw [L_X4_copy_96]
        simp (disch := omega) only [gp_lit, gp_lt, hk, if_true, nI_add, pk_mul, gp_rd, gp_wr, gp_cr_ne]
        have e := gp_cr_s (m := M) (k := 44) (lo := 0) (i := k) (h := fun y => M.1 41 (40 * r + i + y))
        rw [Nat.zero_add] at e
        rw [e]
      · show L_X4_copy_96 n (nI r) (nI i) (nI t) (nI j) (nI x) K (f + 1) (nI x) _ = _
        rw [L_X4_copy_96]
        simp (disch := omega) [gp_lt]
    have lp2 : L_X4_copy_133 n (nI t) (nI j) (nI x) (fun m19 => some (1, m19)) n 0 (gp_cr M 44 0 x (fun y => M.1 41 (40 * r + i + y))) = some (1, gp_cr (gp_cr M 44 0 x (fun y => M.1 41 (40 * r + i + y))) 41 (40 * t + j) x (fun y => M.1 41 (40 * r + i + y))) := by
      refine gp_lp0 (Lf := fun f k mm => L_X4_copy_133 n (nI t) (nI j) (nI x) (fun m19 => some (1, m19)) f (nI k) mm) (N := x) (A := fun k => gp_cr (gp_cr M 44 0 x (fun y => M.1 41 (40 * r + i + y))) 41 (40 * t + j) k (fun y => M.1 41 (40 * r + i + y))) (fun f k hk => ?_) (fun f => ?_) (by omega) |> fun h => by rw [gp_cr_0] at h; exact h
      · show L_X4_copy_133 n (nI t) (nI j) (nI x) _ (f + 1) (nI k) _ = _
        rw [L_X4_copy_133]
        simp (disch := omega) only [gp_lit, gp_lt, hk, if_true, nI_add, pk_mul, gp_rd, gp_wr, gp_cr_ne]
        rw [gp_cr_in (by omega) (by omega), Nat.sub_zero, ← gp_cr_s]
      · show L_X4_copy_133 n (nI t) (nI j) (nI x) _ (f + 1) (nI x) _ = _
        rw [L_X4_copy_133]
        simp (disch := omega) [gp_lt]
    simp (disch := omega) [f_X4_copy, q2, p2, gp_lit, gp_eq, c1, gp_rd, M40, er, et, q3, p3, nns, nnu, k2, k3, l2, l3]
    exact (lp1 _).trans lp2
  · have M1 : ∀ k, k ≠ 10 + t → M.1 k = m.1 k := fun k hk => by rw [hM]; exact gn_cp_1 hk
    obtain ⟨h1, h2, h3, h4⟩ := h
    refine ⟨⟨?_, fun r' hr' => ?_⟩, h2.fr (fun k hk => ?_), h3.fr ?_ ?_ ?_ ?_ ?_ ?_ ?_, h4.fr (fun k hk => ?_) ?_ ?_⟩
    · simp (disch := omega) only [gp_cr_ne, M1]; exact h1.1
    · obtain ⟨z1, z2, z3⟩ := h1.2 r' hr'
      refine ⟨?_, ?_, fun y hy => ?_⟩
      · simp (disch := omega) only [gp_cr_ne, M1]; exact z1
      · simp (disch := omega) only [gp_cr_ne, M1]; exact z2
      · by_cases e5 : r' = t
        · subst e5
          have hMt : M.1 (10 + r') y = va_cpy (m.1 (10 + r)) (m.1 (10 + r')) i j x y := by rw [hM, gn_cp_s]
          by_cases e6 : j ≤ y ∧ y < j + x
          · rw [gp_cr_in (by omega) (by omega)]
            simp (disch := omega) only [gp_cr_ne, hMt, M1]
            rw [pk_cpy_in e6.1 e6.2, show 40 * r + i + (40 * r' + y - (40 * r' + j)) = 40 * r + (i + (y - j)) by omega]
            exact (h1.2 r hr).2.2 _ (by omega)
          · rw [gp_cr_out (by omega)]
            simp (disch := omega) only [gp_cr_ne, hMt, M1]
            rw [pk_cpy_out (by omega)]
            exact z3 y hy
        · rw [gp_cr_out (by omega)]
          simp (disch := omega) only [gp_cr_ne, M1]
          exact z3 y hy
    all_goals first | (simp (disch := omega) only [gp_cr_ne, M1]; done) | (rw [hM]; rfl)

def gp_sL (f : Nat → Int32) : Nat → Int64
  | 0 => 0
  | i + 1 => gp_sL f i + (f i).toInt64
theorem gp_sL_cg {f g : Nat → Int32} : ∀ {n : Nat}, (∀ i, i < n → f i = g i) → gp_sL f n = gp_sL g n
  | 0, _ => rfl
  | n + 1, h => by rw [gp_sL, gp_sL, gp_sL_cg (fun i hi => h i (by omega)), h n (by omega)]
theorem op_mean {n : Nat} (hn : 5000 ≤ n) {m : gn_M} (h : gp_rel m) (a : Int32) : ∃ r m1 m2, f_X3_mean n m a = some (r, m1) ∧ f_X4_mean n m1 a = some (r, m2) ∧ gp_rel m2 := by
  rcases gp_rc h.1 a with ⟨q1, q2⟩ | ⟨r, hr, rfl, q1, q2, q3 | ⟨s, hs, q3⟩⟩
  · exact ⟨-1, m, m, by simp [f_X3_mean, f_X3_refusalOfStrip_r, q1, gp_lit, gp_m1e], by simp [f_X4_mean, q2, gp_lit], h⟩
  · obtain ⟨m2, e2, h2⟩ := gp_both h (f := 1) (by decide)
    refine ⟨-3, gp_fc m 1, m2, ?_, ?_, h2⟩
    · simp (disch := omega) [f_X3_mean, f_X3_refusalOfStrip_r, q1, f_X2_missing_r, gp_rd, q3, gp_lit, gp_m1lt, gp_found, gp_eq, gp_m3e]
    · have e := (h.1.2 r hr).1
      simp (disch := omega) [f_X4_mean, q2, gp_rd, gp_fc_ne, e, q3, gp_lit, gp_m1lt, gp_eq, e2]
  · have e := (h.1.2 r hr).1
    have nns : (nI s < nI 0) = False := gp_nn (by omega)
    by_cases hs0 : s = 0
    · subst hs0
      obtain ⟨m2, e2, h2⟩ := gp_both h (f := 4) (by decide)
      refine ⟨-3, gp_fc m 4, m2, ?_, ?_, h2⟩
      · simp (disch := omega) [f_X3_mean, f_X3_refusalOfStrip_r, q1, f_X2_missing_r, gp_rd, q3, nns, gp_lit, gp_lt, gp_found, gp_eq, gp_m3e]
      · simp (disch := omega) [f_X4_mean, q2, gp_rd, gp_fc_ne, e, q3, nns, gp_lit, gp_eq, e2]
    · have hnz : ¬ (nI s).toInt64 = 0 := by
        rw [nI_l (by omega)]
        show ¬ lN s = lN 0
        rw [pk_lEQ (by omega) (by omega)]
        exact hs0
      obtain ⟨v, hv⟩ : ∃ v, v = (gp_sL (m.1 (10 + r)) s / (nI s).toInt64).toInt32 := ⟨_, rfl⟩
      have tot : f_X2_total_r n m (nI r) = some (gp_sL (m.1 (10 + r)) s) := by
        unfold f_X2_total_r
        refine gp_lp0 (Lf := fun f i (acc : Int64) => L_X2_total_r_5 n m (nI r) (fun e4 => some e4) f acc (nI i)) (N := s) (A := fun i => gp_sL (m.1 (10 + r)) i) (fun f i hi => ?_) (fun f => ?_) (by omega)
        · show L_X2_total_r_5 n m (nI r) _ (f + 1) _ (nI i) = _
          rw [L_X2_total_r_5]
          simp (disch := omega) only [gp_lit, gp_rd, q3, gp_lt, hi, if_true, gp_ra, nI_add]
          rfl
        · show L_X2_total_r_5 n m (nI r) _ (f + 1) _ (nI s) = _
          rw [L_X2_total_r_5]
          simp (disch := omega) [gp_rd, q3, gp_lt]
      refine ⟨1, gn_up m 0 10 v, gn_up (gn_up m 0 10 v) 38 2 v, ?_, ?_, ?_⟩
      · simp (disch := omega) [f_X3_mean, f_X3_refusalOfStrip_r, q1, f_X2_missing_r, gp_rd, q3, nns, gp_lit, gp_lt, gp_eq, tot, show 0 < s by omega]
        unfold gn_dvL
        rw [if_neg hnz]
        simp [f_X3_toldByAsked, gp_pf, ← hv, gp_lit]
      · have lp : ∀ K : Int64 → Option (Int32 × gn_M), L_X4_mean_44 n (gn_up m 0 10 v) (nI r) K n 0 0 = K (gp_sL (m.1 (10 + r)) s) := by
          intro K
          refine gp_lp0 (Lf := fun f i (acc : Int64) => L_X4_mean_44 n (gn_up m 0 10 v) (nI r) K f acc (nI i)) (N := s) (A := fun i => gp_sL (m.1 (10 + r)) i) (fun f i hi => ?_) (fun f => ?_) (by omega)
          · show L_X4_mean_44 n (gn_up m 0 10 v) (nI r) _ (f + 1) _ (nI i) = _
            rw [L_X4_mean_44]
            have e4 := (h.1.2 r hr).2.2 i (by omega)
            simp (disch := omega) only [gp_lit, gp_rd, gp_une, e, q3, gp_lt, hi, if_true, nI_add, pk_mul, e4]
            rfl
          · show L_X4_mean_44 n (gn_up m 0 10 v) (nI r) _ (f + 1) _ (nI s) = _
            rw [L_X4_mean_44]
            simp (disch := omega) [gp_rd, gp_une, e, q3, gp_lt]
        have go : f_X4_mean n (gn_up m 0 10 v) (nI r) = L_X4_mean_44 n (gn_up m 0 10 v) (nI r) (fun e8 => gn_rd (gn_up m 0 10 v) 40 6 (nI r) (fun x9 => gn_dvL x9.toInt64 ((f_X4_told (gn_up m 0 10 v) (e8 / x9.toInt64).toInt32).bind (fun x10 => some (x10.1, x10.2))))) n 0 0 := by
          simp (disch := omega) [f_X4_mean, q2, gp_rd, gp_une, e, q3, nns, gp_lit, gp_eq, hs0]
        rw [go, lp]
        simp (disch := omega) only [gp_rd, gp_une, e, q3]
        unfold gn_dvL
        rw [if_neg hnz]
        simp [f_X4_told, gp_pf, ← hv, gp_lit]
      · obtain ⟨h1, h2, h3, h4⟩ := h
        refine ⟨h1.fr (fun k hk => ?_), h2.fr (fun k hk => ?_), h3.told (v := v) rfl rfl rfl rfl rfl rfl rfl, h4.fr (fun k hk => ?_) rfl rfl⟩
        all_goals simp (disch := omega) only [gp_une]
