/-! PURE: most, the whole -/
section GPRX
variable {m m' : gn_M} {g d : Nat} {K Wt T : Nat → Nat} {G l S : Nat} {nm : Nat → Nat} {A : Nat → Nat → Bool} {L O : Nat} {af : Nat → Nat}
theorem gp_mo51 {n r : Nat} (hn : 5000 ≤ n) (hr : r < 6) (hM : gp_cM m g d K Wt T G l S) (o : gp_ok g d K Wt T G l S) (hN : gp_nM m g nm) (eL : L = gp_lf g G) (eA : A = gp_A L l nm) (h53 : gp_s53 m g A 0) (k : gn_M → Option (Int32 × gn_M)) : ∃ m', gp_wr_at m m' 41 (40 * r) (gp_E g A L 7) (fun y => (gp_sq g A L (y + 1)).2) ∧ L_X4_most_51 n (nI r) (nI (gp_E g A L 7)) k n (nI 0) (nI 7) (nI 0) m = k m' := by
  have hg := o.g7
  have h7 := gp_p7 hg
  have hpos := Nat.two_pow_pos g
  have hL : L < 2 ^ g := by rw [eL]; exact gp_lf_lt g G
  have hAL : ∀ i j, A i j = true → L.testBit j = true := by
    intro i j h
    rw [eA, gp_A] at h
    revert h
    cases L.testBit j <;> simp
  obtain ⟨e, he⟩ : ∃ e, e = gp_E g A L 7 := ⟨_, rfl⟩
  have he8 : e ≤ 8 := by rw [he]; exact Nat.le_trans (gp_E_le hg hL) (gp_po_le _)
  rw [← he]
  have key := gp_li (Lf := fun f q (x : (Int32 × Int32) × gn_M) => L_X4_most_51 n (nI r) (nI e) k f x.1.1 x.1.2 (nI q) x.2) (N := e) (I := fun q x => gp_wr_at m x.2 41 (40 * r) q (fun y => (gp_sq g A L (y + 1)).2) ∧ ∃ t, t < 2 ^ g ∧ gp_df (2 ^ g - 1) t &&& L = (gp_sq g A L q).1 ∧ x.1 = (nI t, nI (gp_sq g A L q).2)) (kk := fun x => k x.2) (fun f q x hq hI => ?_) (fun f x hI => ?_) e 0 n ((nI 0, nI 7), m) (by omega) (by omega) ⟨⟨gp_f1.rfl', fun y hy => by omega, fun y hy => rfl⟩, 0, hpos, ?_, rfl⟩
  · obtain ⟨x, ⟨i1, -⟩, ee⟩ := key
    exact ⟨x.2, i1, ee⟩
  · obtain ⟨⟨v3, v4⟩, m'⟩ := x
    obtain ⟨i1, t, t1, t2, t3⟩ := hI
    dsimp only at i1 t3
    obtain ⟨q1, q2, q3⟩ := gp_sq_ok (g := g) (A := A) (L := L) q (by omega)
    have hsq : gp_sq g A L (q + 1) = (gp_df (gp_sq g A L q).1 (2 ^ gp_ch g A (gp_sq g A L q)), gp_ch g A (gp_sq g A L q)) := rfl
    obtain ⟨s, hs⟩ : ∃ s, s = (gp_sq g A L q).1 := ⟨_, rfl⟩
    obtain ⟨p, hp⟩ : ∃ p, p = (gp_sq g A L q).2 := ⟨_, rfl⟩
    have hsp : gp_sq g A L q = (s, p) := by rw [hs, hp]
    rw [hsp] at hsq
    rw [← hs, ← hp] at q1
    rw [← hs] at q2 t2
    rw [← hp] at q3 t3
    dsimp only at hsq
    have hpos2 : 0 < gp_E g A s p := by omega
    obtain ⟨c1, c2, c3⟩ := gp_ch_ok hpos2
    obtain ⟨j, hj⟩ : ∃ j, j = gp_ch g A (s, p) := ⟨_, rfl⟩
    rw [← hj] at hsq c1 c2 c3
    have hM' : gp_cM m' g d K Wt T G l S := hM.fr (by rw [i1.1.1 38 (by omega)]) (by rw [i1.1.1 38 (by omega)]) (i1.1.1 45 (by omega)) (i1.1.1 46 (by omega)) (i1.1.1 48 (by omega))
    have hN' : gp_nM m' g nm := by unfold gp_nM; rw [i1.1.1 51 (by omega)]; exact hN
    have h53' : gp_s53 m' g A 0 := by unfold gp_s53; rw [i1.1.1 53 (by omega)]; exact h53
    have hE : gp_E g A (gp_df (2 ^ g - 1) t) p = e - q := by
      rw [gp_E_in hAL, t2]
      omega
    have hx1 : v3 = nI t := congrArg Prod.fst t3
    have hx2 : v4 = nI p := congrArg Prod.snd t3
    have e69 := gp_mo69 hn hM' o hN' (a1 := nI r) t1 (show p ≤ 7 by omega) (by rw [← eL, ← eA]; exact h53') he8 (k := q) (by omega) (by rw [← eL, ← eA]; exact hE) (fun (e13 : Int32) => gn_wr m' 41 240 (((40 : Int32) * (nI r)) + (nI q)) e13 (fun m14 => L_X4_most_51 n (nI r) (nI e) k f ((nI t) ||| ((1 : Int32) <<< (e13 &&& 31))) e13 ((nI q) + (1 : Int32)) m14))
    have efi : gp_fi (gp_cq g A (gp_df (2 ^ g - 1) t) p) g 0 = nI j := by
      rw [← c3]
      exact gp_fi_cg g 0 (fun x _ _ => by rw [gp_cq_in hAL, t2])
    rw [← eL, ← eA, efi] at e69
    refine ⟨((nI (t ||| 2 ^ j), nI j), gn_up m' 41 (40 * r + q) (nI j)), ⟨i1.up (by rw [hsq]), t ||| 2 ^ j, gp_or_lt t1 (gp_2_lt c2), ?_, ?_⟩, ?_⟩
    · rw [hsq, gp_c_or, ← gp_rm_and, t2]
    · rw [hsq]
    · show L_X4_most_51 n (nI r) (nI e) k (f + 1) v3 v4 (nI q) m' = _
      rw [L_X4_most_51, hx1, hx2, hM'.1.1, if_pos ((gp_lt (by omega) (by omega)).mpr hq)]
      refine Eq.trans e69 ?_
      simp (disch := omega) only [gp_lit, pk_mul, nI_add, gp_wr, gp_sh, gp_or]
  · show L_X4_most_51 n (nI r) (nI e) k (f + 1) _ _ (nI e) _ = _
    rw [L_X4_most_51]
    simp (disch := omega) only [gp_lt, Nat.lt_irrefl, if_false]
  · have : gp_df (2 ^ g - 1) 0 = 2 ^ g - 1 := by
      apply Nat.eq_of_testBit_eq
      intro x
      rw [gp_df_tb, Nat.zero_testBit]
      simp
    rw [this, Nat.and_comm]
    exact gp_sb_and (fun x hx => by rw [Nat.testBit_two_pow_sub_one]; simpa using gp_tb_lt hL hx)
theorem gp_rowM {n r s : Nat} (hn : 5000 ≤ n) (hr : r < 6) (hs : s ≤ 40) : f_X4_row n m (nI r) (nI s) = some (nI s, gp_rg (gn_up m 40 r (nI s)) 41 (40 * r) 40 0) := by
  have key : L_X4_row_34 n (nI r) (nI s) (fun m5 => some (nI s, m5)) n 0 (gn_up m 40 r (nI s)) = some (nI s, gp_rg (gn_up m 40 r (nI s)) 41 (40 * r) 40 0) := by
    generalize gn_up m 40 r (nI s) = M
    refine gp_lp0 (Lf := fun f i mm => L_X4_row_34 n (nI r) (nI s) (fun m5 => some (nI s, m5)) f (nI i) mm) (N := 40) (A := fun i => gp_rg M 41 (40 * r) i 0) (fun f i hi => ?_) (fun f => ?_) (by omega) |> fun h => by rw [gp_rg_0] at h; exact h
    · show L_X4_row_34 n (nI r) (nI s) _ (f + 1) (nI i) _ = _
      rw [L_X4_row_34]
      simp (disch := omega) only [gp_lit, gp_lt, hi, if_true, nI_add, pk_mul, gp_wr]
      rw [← gp_rg_s]
    · show L_X4_row_34 n (nI r) (nI s) _ (f + 1) (nI 40) _ = _
      rw [L_X4_row_34]
      simp (disch := omega) [gp_lit, gp_lt]
  have q2 : f_X4_isRow (nI r) = some (nI 1) := by
    simp (disch := omega) only [f_X4_isRow, f_X4_in, gp_lit, gp_lt, Nat.not_lt_zero, if_false, show ¬ 5 < r by omega, gp_bs]
  unfold f_X4_row
  rw [q2, gp_bs]
  simp (disch := omega) only [gp_lit, gp_eq, Nat.one_ne_zero, if_false, gp_lt, show ¬ 40 < s by omega, Nat.not_lt_zero, gp_wr]
  exact key
end GPRX
