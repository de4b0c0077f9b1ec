/-! PURE: duel, the whole -/
section GPE
variable {m m' : gn_M} {g d : Nat} {K Wt T : Nat → Nat} {G l S : Nat} {nm : Nat → Nat} {L : Nat}
theorem gp_du31 {n : Nat} (hn : 5000 ≤ n) (hM : gp_cM m g d K Wt T G l S) (o : gp_ok g d K Wt T G l S) (hN : gp_nM m g nm) (hL : L < 2 ^ g) (v : Int32) (k : Int32 → gn_M → Option (Int32 × gn_M)) : ∃ m', gp_f1 55 m m' ∧ L_X4_duel_31 n (nI L) k n v (gp_dn (2 ^ g) 0) m = k (gp_fi (gp_P g (gp_A L l nm) (2 ^ g - 1) 7) g 0) m' := by
  have hg := o.g7
  have h7 := gp_p7 hg
  have hpos := Nat.two_pow_pos g
  obtain ⟨A, hA⟩ : ∃ A, A = gp_A L l nm := ⟨_, rfl⟩
  rw [← hA]
  have key := gp_li (Lf := fun f q (x : Int32 × gn_M) => L_X4_duel_31 n (nI L) k f x.1 (gp_dn (2 ^ g) q) x.2) (N := 2 ^ g) (I := fun q x => (gp_f1 55 m x.2 ∧ gp_s55 x.2 g A (2 ^ g - q)) ∧ (q = 2 ^ g → x.1 = gp_fi (gp_P g A (2 ^ g - 1) 7) g 0)) (kk := fun x => k x.1 x.2) (fun f q x hq hI => ?_) (fun f x hI => ?_) (2 ^ g) 0 n (v, m) (by omega) (by omega) ⟨⟨gp_f1.rfl', fun t h1 h2 => by omega⟩, fun z => by omega⟩
  · obtain ⟨⟨v', m'⟩, ⟨⟨i1, i2⟩, i3⟩, e⟩ := key
    dsimp only at i1 i2 i3 e
    refine ⟨m', i1, ?_⟩
    rw [← i3 rfl]
    exact e
  · obtain ⟨v', m'⟩ := x
    obtain ⟨⟨i1, i2⟩, -⟩ := hI
    dsimp only at i1 i2
    obtain ⟨t, ht⟩ : ∃ t, t = 2 ^ g - q - 1 := ⟨_, rfl⟩
    have hM' := (i1.sf (by omega)).cM hM
    have hN' : gp_nM m' g nm := by unfold gp_nM; rw [i1.1 51 (by omega)]; exact hN
    rw [show 2 ^ g - q = t + 1 by omega] at i2
    obtain ⟨m'', ⟨j1, j2⟩, j3⟩ := gp_du38 hn hM' o hN' hL (t := t) (by omega) (hA ▸ i2) v' (fun (e12 : Int32) (m13 : gn_M) => L_X4_duel_31 n (nI L) k f e12 (gp_dn (2 ^ g) (q + 1)) m13)
    rw [← hA] at j2 j3
    refine ⟨(gp_fi (gp_P g A (gp_df (2 ^ g - 1) t) 7) g 0, m''), ⟨⟨i1.tr j1, ?_⟩, fun z => ?_⟩, ?_⟩
    · rw [show 2 ^ g - (q + 1) = t by omega]
      exact j2
    · dsimp only
      rw [show t = 0 by omega]
      have : gp_df (2 ^ g - 1) 0 = 2 ^ g - 1 := by
        apply Nat.eq_of_testBit_eq
        intro x
        rw [gp_df_tb, Nat.zero_testBit]
        simp
      rw [this]
    · show L_X4_duel_31 n (nI L) k (f + 1) v' (gp_dn (2 ^ g) q) m' = _
      rw [L_X4_duel_31]
      have hdn : gp_dn (2 ^ g) q = nI t := by rw [gp_dn_lt hq, ht]
      have hds := gp_dn_s (N := 2 ^ g) (q := q) hq
      rw [hdn] at hds ⊢
      simp (disch := omega) only [gp_lit, gp_lt, Nat.not_lt_zero, if_false, hds]
      exact j3
  · show L_X4_duel_31 n (nI L) k (f + 1) _ (gp_dn (2 ^ g) (2 ^ g)) _ = _
    rw [L_X4_duel_31, gp_lit 0, if_pos gp_dn_e]
theorem op_duel {n : Nat} (hn : 5000 ≤ n) {m : gn_M} (h : gp_rel m) : ∃ r m1 m2, f_X3_duel n m = some (r, m1) ∧ f_X4_duel n m1 = some (r, m2) ∧ gp_rel m2 := by
  obtain ⟨g, d, K, Wt, T, G, l, S, o, hC, hM⟩ := h.2.2.2.now
  have hg := o.g7
  have h7 := gp_p7 hg
  by_cases g0 : g = 0
  · subst g0
    exact ⟨-4, m, m, by simp [f_X3_duel, hC.1.1, gp_lit], by simp [f_X4_duel, hM.1.1, gp_lit], h⟩
  have hA := gp_rA_is (nm := fun j => gp_nm g K j (T j)) hg (gp_lf_lt g G) o.2.2.2.2.2
  obtain ⟨m1, a1, a2, a3, a4⟩ := gp_svT hn hC o
  obtain ⟨m2, b1, b2⟩ := gp_wgL hn a3 hA
  obtain ⟨L, eL⟩ : ∃ L, L = gp_lf g G := ⟨_, rfl⟩
  obtain ⟨A, eA⟩ : ∃ A, A = gp_A L l (fun j => gp_nm g K j (T j)) := ⟨_, rfl⟩
  rw [← eL] at b1 hA
  rw [← eA] at b1 hA
  have hLl : L < 2 ^ g := by rw [eL]; exact gp_lf_lt g G
  have eF : gp_fi (gp_P g A (2 ^ g - 1) 7) g 0 = gp_fi (gp_P g A L 7) g 0 := by
    refine gp_fi_cg g 0 (fun j _ hj => ?_)
    unfold gp_P
    rw [gp_w_in hA.2.2.2.2.2.2 (gp_df (2 ^ g - 1) (2 ^ j)) j, gp_w_in hA.2.2.2.2.2.2 (gp_df L (2 ^ j)) j, ← gp_rm_and, ← gp_rm_and]
    have e1 : (2 ^ g - 1) &&& L = L := by
      rw [Nat.and_comm]
      exact gp_sb_and (fun x hx => by rw [Nat.testBit_two_pow_sub_one]; simpa using gp_tb_lt hLl hx)
    rw [e1, Nat.and_self]
    by_cases ha : A 7 j = true
    · rw [hA.2.2.2.2.2.2 7 j ha, Nat.testBit_two_pow_sub_one]
      simp [show j < g by omega]
    · simp [ha]
  obtain ⟨F, hF⟩ : ∃ F, F = gp_fi (gp_P g A L 7) g 0 := ⟨_, rfl⟩
  rw [← hF] at b1 eF
  have sf2 := a2.tr (b2.sf (by omega))
  have hM2 : gp_cM (gn_up m2 0 10 F) g d K Wt T G l S := (sf2.cM hM).fr rfl rfl rfl rfl rfl
  obtain ⟨m4, c1, c2, c3⟩ := gp_tnL hn hM2 o
  have hM4 := (c2.sf (by omega)).cM hM2
  obtain ⟨m5, d1, d2⟩ := gp_du31 hn hM4 o c3 hLl (-nI 9) (fun (e14 : Int32) (m15 : gn_M) => (f_X4_told m15 e14).bind (fun x16 => (if e14 = (-9 : Int32) then some ((0 : Int32), x16.2) else some ((1 : Int32), x16.2))))
  rw [← eA, eF] at d2
  have el := gp_leftM hM4 o
  rw [← eL] at el
  have ne0C : ¬ (m.1 7 6 = 0) := by rw [hC.1.1]; exact fun z => g0 ((gp_eq (by omega) (by decide)).mp z)
  have ne0M : ¬ ((gn_up m2 0 10 F).1 38 10 = 0) := by rw [hM2.1.1]; exact fun z => g0 ((gp_eq (by omega) (by decide)).mp z)
  have eC : f_X3_duel n m = some (if F = (-9 : Int32) then (0 : Int32) else 1, gn_up m2 0 10 F) := by
    unfold f_X3_duel
    rw [if_neg ne0C, a1, gp_bs, b1, gp_bs, gp_pf]
    show (if F = (-9 : Int32) then some ((0 : Int32), gn_up m2 0 10 F) else some ((1 : Int32), gn_up m2 0 10 F)) = _
    split <;> rfl
  refine ⟨if F = (-9 : Int32) then (0 : Int32) else 1, gn_up m2 0 10 F, gn_up m5 38 2 F, eC, ?_, gp_sf_told h sf2 ((c2.sf (by omega)).tr (d1.sf (by omega)))⟩
  unfold f_X4_duel
  rw [if_neg ne0M, c1, gp_bs, el, gp_bs, hM4.1.1]
  rw [show (1 : Int32) <<< (nI g &&& 31) = nI (2 ^ g) from gp_sh (by omega)]
  refine Eq.trans d2 ?_
  show (if F = (-9 : Int32) then some ((0 : Int32), gn_up m5 38 2 F) else some ((1 : Int32), gn_up m5 38 2 F)) = _
  split <;> rfl
end GPE
