/-! PURE: op_most -/
theorem op_most {n : Nat} (hn : 5000 ≤ n) {m : gn_M} (h : gp_rel m) (a : Int32) : ∃ r m1 m2, f_X3_most n m a = some (r, m1) ∧ f_X4_most n m1 a = some (r, m2) ∧ gp_rel m2 := by
  rcases gp_rc h.1 a with ⟨q1, q2⟩ | ⟨r, hr, rfl, q1, q2, -⟩
  · exact ⟨-1, m, m, by simp [f_X3_most, q1, gp_lit], by simp [f_X4_most, q2, gp_lit], h⟩
  obtain ⟨g, d, K, Wt, T, G, l, S, o, hC, hM⟩ := h.2.2.2.now
  have hg := o.g7
  have h7 := gp_p7 hg
  by_cases g0 : g = 0
  · subst g0
    exact ⟨-4, m, m, by simp (disch := omega) [f_X3_most, q1, hC.1.1, gp_lit, gp_eq], by simp (disch := omega) [f_X4_most, q2, hM.1.1, gp_lit, gp_eq], h⟩
  have hA := gp_rA_is (nm := fun j => gp_nm g K j (T j)) hg (gp_lf_lt g G) o.2.2.2.2.2
  obtain ⟨m1, a1, a2, a3, a4⟩ := gp_svT hn hC o
  obtain ⟨m2, b1, b2, b3, b4, b5⟩ := gp_rkT hn a3 hA a4
  obtain ⟨L, eL⟩ : ∃ L, L = gp_lf g G := ⟨_, rfl⟩
  obtain ⟨A, eA⟩ : ∃ A, A = gp_A L l (fun j => gp_nm g K j (T j)) := ⟨_, rfl⟩
  rw [← eL] at b3 b4 b5 hA
  rw [← eA] at b4 b5 hA
  have hLl : L < 2 ^ g := by rw [eL]; exact gp_lf_lt g G
  obtain ⟨e, he⟩ : ∃ e, e = gp_E g A L 7 := ⟨_, rfl⟩
  have he8 : e ≤ 8 := by rw [he]; exact Nat.le_trans (gp_E_le hg hLl) (gp_po_le _)
  have e35 := b5 L (fun _ z => z)
  rw [← he] at e35
  obtain ⟨m3, hm3⟩ : ∃ m3, m3 = gn_up (gp_rg m2 (10 + r) 0 40 0) 3 r (nI e) := ⟨_, rfl⟩
  have f3 : ∀ c, c ≠ 3 → c ≠ 10 + r → m3.1 c = m2.1 c := by
    intro c c1 c2
    rw [hm3, gp_une c1, gp_rg_ne c2]
  have f32 : m3.2 = m2.2 := by rw [hm3]; rfl
  have hr3 := b3.fr (f3 8 (by omega) (by omega)) (f3 33 (by omega) (by omega))
  have h34 : gp_s34 m3 g L A := by unfold gp_s34; rw [f3 34 (by omega) (by omega)]; exact b4
  obtain ⟨m4, c1, c2⟩ := gp_wfL hn hr hr3 hA h34
  rw [← he] at c1 c2
  have sf2 := a2.tr b2
  have f4 : ∀ c, c ≠ 3 → c ≠ 10 + r → m4.1 c = m2.1 c := fun c d1 d2 => (c2.1.1 c d2).trans (f3 c d1 d2)
  have hM4 : gp_cM m4 g d K Wt T G l S := (sf2.cM hM).fr (by rw [f4 38 (by omega) (by omega)]) (by rw [f4 38 (by omega) (by omega)]) (f4 45 (by omega) (by omega)) (f4 46 (by omega) (by omega)) (f4 48 (by omega) (by omega))
  obtain ⟨m5, d1, d2, d3⟩ := gp_tnL hn hM4 o
  have hM5 := (d2.sf (by omega)).cM hM4
  obtain ⟨m6, e1, e2, e3⟩ := gp_tmL hn hM5 o d3
  rw [← eL, ← eA] at e3
  have hM6 := (e2.sf (by omega)).cM hM5
  have hN6 : gp_nM m6 g (fun j => gp_nm g K j (T j)) := by unfold gp_nM; rw [e2.1 51 (by omega)]; exact d3
  have e53 : m6.1 53 7 = nI e := by
    have := e3 0 (by omega) (Nat.two_pow_pos g) 7 (by omega)
    rw [Nat.mul_zero, Nat.zero_add] at this
    rw [this, he, gp_E_in hA.2.2.2.2.2.2 (gp_df (2 ^ g - 1) 0) 7]
    have z1 : gp_df (2 ^ g - 1) 0 = 2 ^ g - 1 := by
      apply Nat.eq_of_testBit_eq
      intro x
      rw [gp_df_tb, Nat.zero_testBit]
      simp
    rw [z1, Nat.and_comm, gp_sb_and (fun x hx => by rw [Nat.testBit_two_pow_sub_one]; simpa using gp_tb_lt hLl hx)]
  have erow := gp_rowM (m := m6) hn hr (s := e) (by omega)
  obtain ⟨m7, hm7⟩ : ∃ m7, m7 = gp_rg (gn_up m6 40 r (nI e)) 41 (40 * r) 40 0 := ⟨_, rfl⟩
  rw [← hm7] at erow
  have f7 : ∀ c, c ≠ 40 → c ≠ 41 → m7.1 c = m6.1 c := by
    intro c c1 c2
    rw [hm7, gp_rg_ne c2, gp_une c1]
  have hM7 : gp_cM m7 g d K Wt T G l S := hM6.fr (by rw [f7 38 (by omega) (by omega)]) (by rw [f7 38 (by omega) (by omega)]) (f7 45 (by omega) (by omega)) (f7 46 (by omega) (by omega)) (f7 48 (by omega) (by omega))
  have hN7 : gp_nM m7 g (fun j => gp_nm g K j (T j)) := by unfold gp_nM; rw [f7 51 (by omega) (by omega)]; exact hN6
  have h53 : gp_s53 m7 g A 0 := by unfold gp_s53; rw [f7 53 (by omega) (by omega)]; exact e3
  obtain ⟨m8, k1, k2⟩ := gp_mo51 hn hr hM7 o hN7 eL eA h53 (fun (m15 : gn_M) => some (nI e, m15))
  rw [← he] at k1 k2
  have ne0C : ¬ (m.1 7 6 = 0) := by rw [hC.1.1]; exact fun z => g0 ((gp_eq (by omega) (by decide)).mp z)
  have ne0M : ¬ (m4.1 38 10 = 0) := by rw [hM4.1.1]; exact fun z => g0 ((gp_eq (by omega) (by decide)).mp z)
  have n1 : ¬ (nI 1 = (0 : Int32)) := by decide
  refine ⟨nI e, m4, m8, ?_, ?_, ?_⟩
  · unfold f_X3_most
    rw [q1, gp_bs, if_neg n1, if_neg ne0C, a1, gp_bs, b1, gp_bs, b3.2.1, gp_rd (by omega) (by omega), e35]
    have es : f_X2_spread_r n m2 (nI r) (nI e) 0 = some m3 := by
      unfold f_X2_spread_r
      rw [gp_ra hr (by omega), gp_fill (by omega) (by omega), gp_bs, gp_wr hr (by omega), ← hm3]
    rw [es, gp_bs, gp_ra hr (by omega), c1, gp_bs]
  · unfold f_X4_most
    rw [q2, gp_bs, if_neg n1, if_neg ne0M, d1, gp_bs, e1, gp_bs]
    rw [show (7 : Int32) = nI 7 from rfl, gp_rd (by decide) (by decide), e53, erow, gp_bs]
    exact k2
  · obtain ⟨h1, h2, h3, h4⟩ := h
    have fA : ∀ c, c ≠ 8 → ¬ (33 ≤ c ∧ c ≤ 37) → ¬ (51 ≤ c ∧ c ≤ 55) → c ≠ 24 → c ≠ 25 → c ≠ 3 → c ≠ 10 + r → c ≠ 40 → c ≠ 41 → m8.1 c = m.1 c := by
      intro c z1 z2 z3 z4 z5 z6 z7 z8 z9
      rw [k1.1.1 c z9, f7 c z8 z9, e2.1 c (by omega), d2.1 c (by omega), f4 c z6 z7, sf2.1 c (by omega)]
    have g2 : m8.2 = m.2 := by
      rw [k1.1.2, hm7]
      show m6.2 = m.2
      rw [e2.2, d2.2, c2.1.2, f32, sf2.2]
    have g3 : m8.1 3 = (gn_up m 3 r (nI e)).1 3 := by
      rw [k1.1.1 3 (by omega), f7 3 (by omega) (by omega), e2.1 3 (by omega), d2.1 3 (by omega), c2.1.1 3 (by omega), hm3]
      funext x
      rw [gp_u, gp_u, gp_rg_ne (by omega), sf2.1 3 (by omega)]
    have g40 : m8.1 40 = (gn_up m 40 r (nI e)).1 40 := by
      rw [k1.1.1 40 (by omega), hm7, gp_rg_ne (by omega)]
      funext x
      rw [gp_u, gp_u, e2.1 40 (by omega), d2.1 40 (by omega), f4 40 (by omega) (by omega), sf2.1 40 (by omega)]
    have g10 : m8.1 (10 + r) = m4.1 (10 + r) := by
      rw [k1.1.1 _ (by omega), f7 _ (by omega) (by omega), e2.1 _ (by omega), d2.1 _ (by omega)]
    have g10a : ∀ y, y < e → m8.1 (10 + r) y = nI (gp_sq g A L (y + 1)).2 := by
      intro y hy
      rw [g10]
      have := c2.2.1 y hy
      rw [Nat.zero_add] at this
      exact this
    have g10b : ∀ y, e ≤ y → y < 40 → m8.1 (10 + r) y = 0 := by
      intro y hy hy2
      rw [g10, c2.2.2 y (by omega), hm3, gp_une (by omega)]
      exact gp_rg_in (by omega) (by omega)
    have g41a : ∀ y, y < e → m8.1 41 (40 * r + y) = nI (gp_sq g A L (y + 1)).2 := fun y hy => k1.2.1 y hy
    have g41b : ∀ y, e ≤ y → y < 40 → m8.1 41 (40 * r + y) = 0 := by
      intro y hy hy2
      rw [k1.2.2 _ (by omega), hm7]
      exact gp_rg_in (by omega) (by omega)
    have g41c : ∀ y, (y < 40 * r ∨ 40 * r + 40 ≤ y) → m8.1 41 y = m.1 41 y := by
      intro y hy
      rw [k1.2.2 _ (by omega), hm7, gp_rg_out (by omega), gp_une (by omega), e2.1 41 (by omega), d2.1 41 (by omega), f4 41 (by omega) (by omega), sf2.1 41 (by omega)]
    refine ⟨⟨?_, fun r' hr' => ?_⟩, h2.fr (fun k hk => fA k (by omega) (by omega) (by omega) (by omega) (by omega) (by omega) (by omega) (by omega) (by omega)), h3.fr ?_ ?_ ?_ ?_ g2 (fA 39 (by omega) (by omega) (by omega) (by omega) (by omega) (by omega) (by omega) (by omega) (by omega)) (fA 26 (by omega) (by omega) (by omega) (by omega) (by omega) (by omega) (by omega) (by omega) (by omega)), h4.fr (fun k hk => fA k (by omega) (by omega) (by omega) (by omega) (by omega) (by omega) (by omega) (by omega) (by omega)) ?_ ?_⟩
    · rw [fA 1 (by omega) (by omega) (by omega) (by omega) (by omega) (by omega) (by omega) (by omega) (by omega)]; exact h1.1
    · obtain ⟨x1, x2, x3⟩ := h1.2 r' hr'
      by_cases er : r' = r
      · subst er
        refine ⟨?_, Or.inr ⟨e, by omega, ?_⟩, fun i hi => ?_⟩
        · rw [g40, g3, gp_u, gp_u, if_pos ⟨rfl, rfl⟩, if_pos ⟨rfl, rfl⟩]
        · rw [g3, gp_u, if_pos ⟨rfl, rfl⟩]
        · by_cases hy : i < e
          · rw [g41a i hy, g10a i hy]
          · rw [g41b i (by omega) hi, g10b i (by omega) hi]
      · refine ⟨?_, ?_, fun i hi => ?_⟩
        · rw [g40, g3, gp_u, gp_u, if_neg (by omega), if_neg (by omega)]; exact x1
        · rw [g3, gp_u, if_neg (by omega)]; exact x2
        · rw [g41c _ (by omega), fA (10 + r') (by omega) (by omega) (by omega) (by omega) (by omega) (by omega) (by omega) (by omega) (by omega)]
          exact x3 i hi
    all_goals first
      | rw [fA 38 (by omega) (by omega) (by omega) (by omega) (by omega) (by omega) (by omega) (by omega) (by omega)]
      | rw [fA 0 (by omega) (by omega) (by omega) (by omega) (by omega) (by omega) (by omega) (by omega) (by omega)]
