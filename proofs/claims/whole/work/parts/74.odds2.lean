/-! PURE: odds, mid -/
theorem gp_sf.upL {m m' : gn_M} {k i : Nat} {v : Int64} (h : gp_sf m m') : gp_sf (gn_upL m k i v) (gn_upL m' k i v) := by
  refine ⟨fun c hc => h.1 c hc, ?_⟩
  funext a b
  rw [gp_uL, gp_uL, h.2]
theorem gp_rel_frac {m : gn_M} (h : gp_rel m) (u w : Int64) : gp_rel (gn_upL (gn_upL (gn_upL (gn_upL m 0 11 u) 0 12 w) 38 3 u) 38 4 w) := by
  obtain ⟨h1, h2, ⟨a1, a2, a3, a4, a5⟩, h4⟩ := h
  refine ⟨h1.fr (fun k hk => rfl), h2.fr (fun k hk => rfl), ⟨a1, a2, ?_, ?_, a5⟩, h4.fr (fun k hk => rfl) rfl rfl⟩
  · simp only [gp_uL]
    simp
  · simp only [gp_uL]
    simp
theorem gp_sf_frac {m m2 m5 : gn_M} (h : gp_rel m) {u w : Int64} (h1 : gp_sf m m2) (h2 : gp_sf (gn_upL (gn_upL m2 0 11 u) 0 12 w) m5) : gp_rel (gn_upL (gn_upL m5 38 3 u) 38 4 w) := ((h1.upL.upL (k := 0) (i := 12) (v := w)).tr h2).upL.upL.rel (gp_rel_frac h u w)
theorem gp_pin (p : Int32) : (p < nI 0 ∨ nI 12 < p) ∨ ∃ q, q ≤ 12 ∧ p = nI q := by
  rcases gp_ix p 13 (by decide) with q | ⟨j, hj, rfl⟩ | ⟨q1, q2⟩
  · exact Or.inl (Or.inl q)
  · exact Or.inr ⟨j, by omega, rfl⟩
  · left
    right
    obtain ⟨j, hj, rfl⟩ := nI_of q1
    rw [gp_lt (by omega) (by omega)] at q2 ⊢
    omega
/-- what comes of a sum, for both -/
theorem op_odds {n : Nat} (hn : 5000 ≤ n) {m : gn_M} (h : gp_rel m) (a : Int32) : ∃ r m1 m2, f_X3_odds n m a = some (r, m1) ∧ f_X4_odds n m1 a = some (r, m2) ∧ gp_rel m2 := by
  rcases gp_pin a with q | ⟨p, hp, rfl⟩
  · refine ⟨-1, m, m, ?_, ?_, h⟩
    · unfold f_X3_odds
      by_cases c : a < (0 : Int32)
      · rw [if_pos c]
      · rw [if_neg c, if_pos (by rcases q with q | q; exact absurd q c; exact q)]
    · unfold f_X4_odds f_X4_in
      by_cases c : a < (0 : Int32)
      · rw [if_pos c]
        rfl
      · rw [if_neg c, if_pos (by rcases q with q | q; exact absurd q c; exact q)]
        rfl
  obtain ⟨g, d, K, Wt, T, G, l, S, o, hC, hM⟩ := h.2.2.2.now
  have hg := o.g7
  have h7 := gp_p7 hg
  have i1 : ¬ (nI p < (0 : Int32)) := by rw [show (0 : Int32) = nI 0 from rfl, gp_nn (by omega)]; exact fun z => z
  have i2 : ¬ ((12 : Int32) < nI p) := fun z => by
    have : 12 < p := (gp_lt (by decide) (by omega)).mp z
    omega
  have iM : f_X4_in (nI p) (0 : Int32) (12 : Int32) = some (nI 1) := by
    unfold f_X4_in
    rw [if_neg i1, if_neg i2]
    rfl
  have n1 : ¬ (nI 1 = (0 : Int32)) := by decide
  by_cases g0 : g = 0
  · subst g0
    refine ⟨-4, m, m, ?_, ?_, h⟩
    · unfold f_X3_odds
      rw [if_neg i1, if_neg i2, hC.1.1]
      rfl
    · unfold f_X4_odds
      rw [iM, gp_bs, if_neg n1, hM.1.1]
      rfl
  have hA := gp_rA_is (nm := fun j => gp_nm g K j (T j)) hg (gp_lf_lt g G) o.2.2.2.2.2
  obtain ⟨m1, a1, a2, a3, a4⟩ := gp_svT hn hC o
  obtain ⟨L, eL⟩ : ∃ L, L = gp_lf g G := ⟨_, rfl⟩
  obtain ⟨A, eA⟩ : ∃ A, A = gp_A L l (fun j => gp_nm g K j (T j)) := ⟨_, rfl⟩
  rw [← eL] at a3 a4 hA
  rw [← eA] at a4 hA
  have hLl : L < 2 ^ g := by rw [eL]; exact gp_lf_lt g G
  obtain ⟨F, hF⟩ : ∃ F : Nat → Nat, F = fun t => if 0 < gp_N g A t 7 then gp_wgt p L t else 0 := ⟨_, rfl⟩
  have hsub : ∀ t, t < 2 ^ g → 0 < gp_N g A t 7 → gp_sb t L := fun t ht hN j hj => gp_N_in hA.2.2.2.2.2.2 t 7 ht hN j hj
  have hFb : ∀ t, t < 2 ^ g → F t ≤ 12 ^ 7 := by
    intro t ht
    rw [hF]
    dsimp only
    split
    · next hN => exact gp_wgt_le hp (by omega) (gp_sb_po (by omega) (hsub t ht hN))
    · omega
  have hEx : gp_su F (2 ^ g) = gp_su F (L + 1) := by
    obtain ⟨k, hk⟩ : ∃ k, 2 ^ g = L + 1 + k := ⟨2 ^ g - (L + 1), by omega⟩
    have := gp_su_ex (f := F) (n := L + 1) k (fun i h1 h2 => by
      rw [hF]
      exact if_neg (gp_above hA.2.2.2.2.2.2 (by omega) (by omega) 7))
    rw [← hk] at this
    exact this
  obtain ⟨s, hs⟩ : ∃ s, s = gp_su F (L + 1) := ⟨_, rfl⟩
  have hsb : s < 2 ^ 63 := by
    have := gp_su_le (f := F) (b := 12 ^ 7) (n := L + 1) (fun i hi => hFb i (by omega))
    rw [← hs] at this
    have h2 : (L + 1) * 12 ^ 7 ≤ 128 * 12 ^ 7 := Nat.mul_le_mul_right _ (by omega)
    have h3 : 128 * 12 ^ 7 < 2 ^ 63 := by decide
    omega
  have lpC : ∀ k : Int64 → Option (Int32 × gn_M), L_X3_odds_48 n m1 (nI p) k n (lN 0) (nI 0) = k (lN s) := by
    intro k
    rw [hs]
    refine gp_lp0 (Lf := fun f i (acc : Int64) => L_X3_odds_48 n m1 (nI p) k f acc (nI i)) (N := L + 1) (A := fun i => lN (gp_su F i)) (fun f i hi => ?_) (fun f => ?_) (by omega)
    · show L_X3_odds_48 n m1 (nI p) k (f + 1) _ (nI i) = _
      rw [L_X3_odds_48]
      have hc := gp_ctL a3 hA a4 (s := i) (by omega)
      have e6 := a3.2.1
      by_cases c1 : 0 < gp_N g A i 7
      · have hw := gp_wtC hn a3 hg hLl (hsub i (by omega) c1) hp
        have hFi : F i = gp_wgt p L i := by rw [hF]; exact if_pos c1
        rw [if_pos c1] at hc
        simp (disch := omega) only [e6, gp_lt, show ¬ L < i by omega, if_false, hc, Option.bind_some, gp_lit, gp_eq, Nat.one_ne_zero, hw, lN_add, nI_add, gp_su, hFi]
      · have hFi : F i = 0 := by rw [hF]; exact if_neg c1
        rw [if_neg c1] at hc
        simp (disch := omega) only [e6, gp_lt, show ¬ L < i by omega, if_false, if_true, hc, Option.bind_some, gp_lit, nI_add, gp_su, hFi, Nat.add_zero]
    · show L_X3_odds_48 n m1 (nI p) k (f + 1) _ (nI (L + 1)) = _
      rw [L_X3_odds_48]
      have e6 := a3.2.1
      simp (disch := omega) only [e6, gp_lt, Nat.lt_succ_self, if_true]
  have lpM : ∀ m5, gp_cM m5 g d K Wt T G l S → gp_s52 m5 g A → ∀ k : Int64 → Option (Int32 × gn_M), L_X4_odds_35 n m5 (nI p) k n (lN 0) (nI 0) = k (lN s) := by
    intro m5 hM5 h52 k
    rw [hs, ← hEx]
    refine gp_lp0 (Lf := fun f i (acc : Int64) => L_X4_odds_35 n m5 (nI p) k f acc (nI i)) (N := 2 ^ g) (A := fun i => lN (gp_su F i)) (fun f i hi => ?_) (fun f => ?_) (by omega)
    · show L_X4_odds_35 n m5 (nI p) k (f + 1) _ (nI i) = _
      rw [L_X4_odds_35]
      have eo := gp_ooL hn hM5 hg h52 hi
      have hNl := gp_N_lt (A := A) (s := i) (i := 7) hg hi
      have hw := gp_wsM hn hM5 o eL (t := i) (p := p) hi hp
      by_cases c1 : 0 < gp_N g A i 7
      · have hFi : F i = gp_wgt p L i := by rw [hF]; exact if_pos c1
        rw [if_pos (gp_df0.mpr (hsub i hi c1))] at hw
        simp (disch := omega) only [hM5.1.1, gp_lit, gp_sh, gp_lt, hi, if_true, eo, Option.bind_some, c1, hw, lN_add, nI_add, gp_su, hFi]
      · have hFi : F i = 0 := by rw [hF]; exact if_neg c1
        simp (disch := omega) only [hM5.1.1, gp_lit, gp_sh, gp_lt, hi, if_true, if_false, eo, Option.bind_some, c1, nI_add, gp_su, hFi, Nat.add_zero]
        rw [show (0 : Int64) = lN 0 from rfl, lN_add, Nat.add_zero]
    · show L_X4_odds_35 n m5 (nI p) k (f + 1) _ (nI (2 ^ g)) = _
      rw [L_X4_odds_35]
      simp (disch := omega) only [hM5.1.1, gp_lit, gp_sh, gp_lt, Nat.lt_irrefl, if_false]
  obtain ⟨u, hu⟩ : ∃ u, u = lN (s / Nat.gcd s (12 ^ gp_po L)) := ⟨_, rfl⟩
  obtain ⟨w, hw⟩ : ∃ w, w = lN (12 ^ gp_po L / Nat.gcd s (12 ^ gp_po L)) := ⟨_, rfl⟩
  have etp := gp_tpC hn a3 hg hLl hsb
  rw [← hu, ← hw] at etp
  have ne0C : ¬ (m.1 7 6 = 0) := by rw [hC.1.1]; exact fun z => g0 ((gp_eq (by omega) (by decide)).mp z)
  have hM2 : gp_cM (gn_upL (gn_upL m1 0 11 u) 0 12 w) g d K Wt T G l S := (a2.cM hM).fr rfl rfl rfl rfl rfl
  obtain ⟨m4, m5, c1, c2, c3, c4⟩ := gp_nwT hn hM2 o
  rw [← eL, ← eA] at c4
  have hM5 := c3.cM hM2
  obtain ⟨w1, w2⟩ := gp_12 (gp_po_7 L (by omega))
  have efr := gp_frL (m := m5) hn hsb w1 w2
  rw [← hu, ← hw] at efr
  have ne0M : ¬ ((gn_upL (gn_upL m1 0 11 u) 0 12 w).1 38 10 = 0) := by rw [hM2.1.1]; exact fun z => g0 ((gp_eq (by omega) (by decide)).mp z)
  refine ⟨1, gn_upL (gn_upL m1 0 11 u) 0 12 w, gn_upL (gn_upL m5 38 3 u) 38 4 w, ?_, ?_, gp_sf_frac h a2 c3⟩
  · unfold f_X3_odds
    rw [if_neg i1, if_neg i2, if_neg ne0C, a1, gp_bs]
    refine Eq.trans (lpC _) ?_
    rw [etp]
    rfl
  · unfold f_X4_odds
    rw [iM, gp_bs, if_neg n1, if_neg ne0M, c1, gp_bs, c2, gp_bs]
    refine Eq.trans (lpM m5 hM5 c4 _) ?_
    rw [gp_awM hn hM5 o eL, gp_bs, efr]
    rfl
theorem op_mid {n : Nat} (hn : 5000 ≤ n) {m : gn_M} (h : gp_rel m) (a : Int32) : ∃ r m1 m2, f_X3_mid n m a = some (r, m1) ∧ f_X4_mid n m1 a = some (r, m2) ∧ gp_rel m2 := by
  rcases gp_pin a with q | ⟨p, hp, rfl⟩
  · refine ⟨-1, m, m, ?_, ?_, h⟩
    · unfold f_X3_mid
      by_cases c : a < (0 : Int32)
      · rw [if_pos c]
      · rw [if_neg c, if_pos (by rcases q with q | q; exact absurd q c; exact q)]
    · unfold f_X4_mid f_X4_in
      by_cases c : a < (0 : Int32)
      · rw [if_pos c]
        rfl
      · rw [if_neg c, if_pos (by rcases q with q | q; exact absurd q c; exact q)]
        rfl
  obtain ⟨g, d, K, Wt, T, G, l, S, o, hC, hM⟩ := h.2.2.2.now
  have hg := o.g7
  have h7 := gp_p7 hg
  have i1 : ¬ (nI p < (0 : Int32)) := by rw [show (0 : Int32) = nI 0 from rfl, gp_nn (by omega)]; exact fun z => z
  have i2 : ¬ ((12 : Int32) < nI p) := fun z => by
    have : 12 < p := (gp_lt (by decide) (by omega)).mp z
    omega
  have iM : f_X4_in (nI p) (0 : Int32) (12 : Int32) = some (nI 1) := by
    unfold f_X4_in
    rw [if_neg i1, if_neg i2]
    rfl
  have n1 : ¬ (nI 1 = (0 : Int32)) := by decide
  by_cases g0 : g = 0
  · subst g0
    refine ⟨-4, m, m, ?_, ?_, h⟩
    · unfold f_X3_mid
      rw [if_neg i1, if_neg i2, hC.1.1]
      rfl
    · unfold f_X4_mid
      rw [iM, gp_bs, if_neg n1, hM.1.1]
      rfl
  have hA := gp_rA_is (nm := fun j => gp_nm g K j (T j)) hg (gp_lf_lt g G) o.2.2.2.2.2
  obtain ⟨m0, a1, a2, a3, a4⟩ := gp_svT hn hC o
  obtain ⟨m1, b1, b2, b3, b4, b5⟩ := gp_rkT hn a3 hA a4
  obtain ⟨L, eL⟩ : ∃ L, L = gp_lf g G := ⟨_, rfl⟩
  obtain ⟨A, eA⟩ : ∃ A, A = gp_A L l (fun j => gp_nm g K j (T j)) := ⟨_, rfl⟩
  rw [← eL] at b3 b5 hA
  rw [← eA] at b5 hA
  have hLl : L < 2 ^ g := by rw [eL]; exact gp_lf_lt g G
  obtain ⟨F, hF⟩ : ∃ F : Nat → Nat, F = fun t => if gp_df t L = 0 then gp_wgt p L t * gp_E g A t 7 else 0 := ⟨_, rfl⟩
  have hFb : ∀ t, t < 2 ^ g → F t ≤ 12 ^ 7 * 8 := by
    intro t ht
    rw [hF]
    dsimp only
    split
    · next hN => exact Nat.mul_le_mul (gp_wgt_le hp (by omega) (gp_sb_po (by omega) (gp_df0.mp hN))) (Nat.le_trans (gp_E_le hg ht) (gp_po_le _))
    · omega
  have hEx : gp_su F (2 ^ g) = gp_su F (L + 1) := by
    obtain ⟨k, hk⟩ : ∃ k, 2 ^ g = L + 1 + k := ⟨2 ^ g - (L + 1), by omega⟩
    have := gp_su_ex (f := F) (n := L + 1) k (fun i h1 h2 => by
      rw [hF]
      exact if_neg (fun z => by have := gp_sb_le (gp_df0.mp z); omega))
    rw [← hk] at this
    exact this
  obtain ⟨s, hs⟩ : ∃ s, s = gp_su F (L + 1) := ⟨_, rfl⟩
  have hsb : s < 2 ^ 63 := by
    have := gp_su_le (f := F) (b := 12 ^ 7 * 8) (n := L + 1) (fun i hi => hFb i (by omega))
    rw [← hs] at this
    have h2 : (L + 1) * (12 ^ 7 * 8) ≤ 128 * (12 ^ 7 * 8) := Nat.mul_le_mul_right _ (by omega)
    have h3 : 128 * (12 ^ 7 * 8) < 2 ^ 63 := by decide
    omega
  have hEb : ∀ t, t < 2 ^ g → gp_E g A t 7 ≤ 8 := fun t ht => Nat.le_trans (gp_E_le hg ht) (gp_po_le _)
  have lpC : ∀ k : Int64 → Option (Int32 × gn_M), L_X3_mid_55 n m1 (nI p) k n (lN 0) (nI 0) = k (lN s) := by
    intro k
    rw [hs]
    refine gp_lp0 (Lf := fun f i (acc : Int64) => L_X3_mid_55 n m1 (nI p) k f acc (nI i)) (N := L + 1) (A := fun i => lN (gp_su F i)) (fun f i hi => ?_) (fun f => ?_) (by omega)
    · show L_X3_mid_55 n m1 (nI p) k (f + 1) _ (nI i) = _
      rw [L_X3_mid_55]
      have hc := gp_wi b3 (s := i) (by omega)
      have e6 := b3.2.1
      by_cases c1 : gp_df i L = 0
      · have hw := gp_wtC hn b3 hg hLl (gp_df0.mp c1) hp
        have e35 := b5 i (gp_df0.mp c1)
        have hFi : F i = gp_wgt p L i * gp_E g A i 7 := by rw [hF]; exact if_pos c1
        have hb := hEb i (by omega)
        have el : (nI (gp_E g A i 7)).toInt64 = lN (gp_E g A i 7) := nI_l (by omega)
        rw [if_pos c1] at hc
        simp (disch := omega) only [e6, gp_lt, show ¬ L < i by omega, if_false, hc, Option.bind_some, gp_lit, gp_eq, Nat.one_ne_zero, hw, gp_rd, e35, el, lN_mul, lN_add, nI_add, gp_su, hFi]
      · have hFi : F i = 0 := by rw [hF]; exact if_neg c1
        rw [if_neg c1] at hc
        simp (disch := omega) only [e6, gp_lt, show ¬ L < i by omega, if_false, if_true, hc, Option.bind_some, gp_lit, nI_add, gp_su, hFi, Nat.add_zero]
    · show L_X3_mid_55 n m1 (nI p) k (f + 1) _ (nI (L + 1)) = _
      rw [L_X3_mid_55]
      have e6 := b3.2.1
      simp (disch := omega) only [e6, gp_lt, Nat.lt_succ_self, if_true]
  have lpM : ∀ m5, gp_cM m5 g d K Wt T G l S → gp_s52 m5 g A → ∀ k : Int64 → Option (Int32 × gn_M), L_X4_mid_35 n m5 (nI p) k n (lN 0) (nI 0) = k (lN s) := by
    intro m5 hM5 h52 k
    rw [hs, ← hEx]
    refine gp_lp0 (Lf := fun f i (acc : Int64) => L_X4_mid_35 n m5 (nI p) k f acc (nI i)) (N := 2 ^ g) (A := fun i => lN (gp_su F i)) (fun f i hi => ?_) (fun f => ?_) (by omega)
    · show L_X4_mid_35 n m5 (nI p) k (f + 1) _ (nI i) = _
      rw [L_X4_mid_35]
      have em := gp_moL hn hM5 hg h52 hi
      have hw := gp_wsM hn hM5 o eL (t := i) (p := p) hi hp
      have hb := hEb i hi
      have el : (nI (gp_E g A i 7)).toInt64 = lN (gp_E g A i 7) := nI_l (by omega)
      have hFi : (if gp_df i L = 0 then gp_wgt p L i else 0) * gp_E g A i 7 = F i := by
        rw [hF]
        dsimp only
        split
        · rfl
        · exact Nat.zero_mul _
      simp (disch := omega) only [hM5.1.1, gp_lit, gp_sh, gp_lt, hi, if_true, hw, em, Option.bind_some, el, lN_mul, lN_add, hFi, nI_add, gp_su]
    · show L_X4_mid_35 n m5 (nI p) k (f + 1) _ (nI (2 ^ g)) = _
      rw [L_X4_mid_35]
      simp (disch := omega) only [hM5.1.1, gp_lit, gp_sh, gp_lt, Nat.lt_irrefl, if_false]
  obtain ⟨u, hu⟩ : ∃ u, u = lN (s / Nat.gcd s (12 ^ gp_po L)) := ⟨_, rfl⟩
  obtain ⟨w, hw⟩ : ∃ w, w = lN (12 ^ gp_po L / Nat.gcd s (12 ^ gp_po L)) := ⟨_, rfl⟩
  have etp := gp_tpC hn b3 hg hLl hsb
  rw [← hu, ← hw] at etp
  have sf2 := a2.tr b2
  have ne0C : ¬ (m.1 7 6 = 0) := by rw [hC.1.1]; exact fun z => g0 ((gp_eq (by omega) (by decide)).mp z)
  have hM2 : gp_cM (gn_upL (gn_upL m1 0 11 u) 0 12 w) g d K Wt T G l S := (sf2.cM hM).fr rfl rfl rfl rfl rfl
  obtain ⟨m4, m5, c1, c2, c3, c4⟩ := gp_nwT hn hM2 o
  rw [← eL, ← eA] at c4
  have hM5 := c3.cM hM2
  obtain ⟨w1, w2⟩ := gp_12 (gp_po_7 L (by omega))
  have efr := gp_frL (m := m5) hn hsb w1 w2
  rw [← hu, ← hw] at efr
  have ne0M : ¬ ((gn_upL (gn_upL m1 0 11 u) 0 12 w).1 38 10 = 0) := by rw [hM2.1.1]; exact fun z => g0 ((gp_eq (by omega) (by decide)).mp z)
  refine ⟨1, gn_upL (gn_upL m1 0 11 u) 0 12 w, gn_upL (gn_upL m5 38 3 u) 38 4 w, ?_, ?_, gp_sf_frac h sf2 c3⟩
  · unfold f_X3_mid
    rw [if_neg i1, if_neg i2, if_neg ne0C, a1, gp_bs, b1, gp_bs]
    refine Eq.trans (lpC _) ?_
    rw [etp]
    rfl
  · unfold f_X4_mid
    rw [iM, gp_bs, if_neg n1, if_neg ne0M, c1, gp_bs, c2, gp_bs]
    refine Eq.trans (lpM m5 hM5 c4 _) ?_
    rw [gp_awM hn hM5 o eL, gp_bs, efr]
    rfl
