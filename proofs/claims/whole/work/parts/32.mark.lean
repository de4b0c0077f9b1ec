/-! PURE: mark -/
theorem gp_po_ct {s g : Nat} (hg : g ≤ 8) (hs : s < 2 ^ g) : gp_po s = gp_ct (fun i => s.testBit i) g := by
  have e : s = gp_bs1 (fun i => s.testBit i) g := by
    apply Nat.eq_of_testBit_eq
    intro i
    rw [gp_bs1_tb]
    by_cases hi : i < g
    · simp [hi]
    · have : s.testBit i = false := by
        cases hb : s.testBit i with
        | false => rfl
        | true => exact absurd (gp_tb_lt hs hb) hi
      simp [hi, this]
  conv => lhs; rw [e]
  exact gp_po_bs _ g hg
theorem gp_ct_not (P : Nat → Bool) {i : Nat} (hi : P i = false) : ∀ n, gp_ct P n + gp_ct (fun j => !(decide (j = i)) && !P j) n + (if i < n then 1 else 0) = n
  | 0 => by simp [gp_ct]
  | n + 1 => by
    have ih := gp_ct_not P hi n
    rw [gp_ct, gp_ct]
    by_cases e : n = i
    · subst e
      simp [hi]
      simp at ih
      omega
    · by_cases e2 : i < n
      · rw [if_pos e2] at ih
        have q : (if i < n + 1 then 1 else 0) = 1 := if_pos (by omega)
        rw [q]
        by_cases hp : P n = true <;> simp [e, hp] <;> omega
      · rw [if_neg e2] at ih
        have q : (if i < n + 1 then 1 else 0) = 0 := if_neg (by omega)
        rw [q]
        by_cases hp : P n = true <;> simp [e, hp] <;> omega
def gp_mq (g : Nat) (K T : Nat → Nat) (i c j : Nat) : Bool := !(decide (j = i)) && (if c = 1 then !(T j).testBit i else if c = 2 then ((gp_nm g K j (T j)).testBit i && !(T j).testBit i) else (gp_nm g K j (T j)).testBit i)
section GPK
variable {m : gn_M} {g d : Nat} {K Wt T : Nat → Nat} {G l S : Nat}
theorem gp_mkM {n : Nat} (hn : 5000 ≤ n) (h : gp_cM m g d K Wt T G l S) (o : gp_ok g d K Wt T G l S) {i c : Nat} (hi : i < g) (hc : c < 6) (k : Int32 → Option (Int32 × gn_M)) : L_X4_mark_87 n m (nI i) (nI c) k n 0 0 = k (nI (gp_ct (gp_mq g K T i c) g)) := by
  have hg := o.g7
  have h7 := gp_p7 hg
  have e := h.1.1
  refine gp_lp0 (Lf := fun f j (acc : Int32) => L_X4_mark_87 n m (nI i) (nI c) k f acc (nI j)) (N := g) (A := fun j => nI (gp_ct (gp_mq g K T i c) j)) (fun f j hj => ?_) (fun f => ?_) (by omega)
  · show L_X4_mark_87 n m (nI i) (nI c) k (f + 1) _ (nI j) = _
    rw [L_X4_mark_87]
    have e1 := gp_toldM h hg o.2.1 hj
    have e2 := gp_namesOf hn h o hj
    have b1 := (o.2.2.1 j hj).2.2.1
    have b2 := gp_nm_lt (g := g) (K := K) (i := j) (t := T j) hj b1
    simp (disch := omega) only [gp_lit, e, gp_lt, hj, if_true, e1, e2, gp_bs, gp_has, gp_ite1, gp_eq, nI_add, Nat.add_zero, gp_ct, gp_mq]
    by_cases z1 : j = i
    · simp [z1]
    · by_cases z2 : (T j).testBit i = true <;> by_cases z3 : (gp_nm g K j (T j)).testBit i = true <;> by_cases z4 : c = 1 <;> by_cases z5 : c = 2 <;> simp (disch := omega) [z1, z2, z3, z4, z5, gp_eq]
  · show L_X4_mark_87 n m (nI i) (nI c) k (f + 1) _ (nI g) = _
    rw [L_X4_mark_87]
    simp (disch := omega) [e, gp_lt]
end GPK
theorem op_mark {n : Nat} (hn : 5000 ≤ n) {m : gn_M} (h : gp_rel m) (a b : Int32) : ∃ r m1 m2, f_X3_mark n m a b = some (r, m1) ∧ f_X4_mark n m1 a b = some (r, m2) ∧ gp_rel m2 := by
  obtain ⟨g, d, K, Wt, T, G, l, S, o, hC, hM⟩ := h.2.2.2.now
  have hg := o.g7
  have h7 := gp_p7 hg
  rcases gp_gc hC hM hg a with ⟨q1, q2⟩ | ⟨i, hi, rfl, q1, q2⟩
  · exact ⟨-1, m, m, by simp [f_X3_mark, q1, gp_lit], by simp [f_X4_mark, q2, gp_lit], h⟩
  by_cases c1 : ¬ (nI 0 < b)
  · have c1' : b < nI 1 := by
      rcases fa_three b (nI 0) with z | z | z
      · exact Int32.lt_trans z (by decide)
      · rw [z]; decide
      · exact absurd z c1
    exact ⟨-1, m, m, by simp (disch := omega) [f_X3_mark, q1, gp_lit, gp_eq, c1], by simp (disch := omega) [f_X4_mark, f_X4_in, q2, gp_lit, gp_eq, c1'], h⟩
  have c1 := Classical.not_not.mp c1
  have c2 : ¬ b < 0 := fun q => Int32.lt_irrefl (Int32.lt_trans q c1)
  obtain ⟨c, hc, rfl⟩ := nI_of c2
  rw [gp_lt (by decide) (by omega)] at c1
  by_cases c3 : ¬ (c < 6)
  · exact ⟨-1, m, m, by simp (disch := omega) [f_X3_mark, q1, gp_lit, gp_eq, gp_lt, c1, c3], by simp (disch := omega) [f_X4_mark, f_X4_in, q2, gp_lit, gp_eq, gp_lt, show ¬ c = 0 by omega, show 5 < c by omega], h⟩
  have c3 := Classical.not_not.mp c3
  have hk := (o.2.2.1 i hi).1
  have eC := (hC.2.1 i hi).1
  have eM := (hM.2 i hi).1
  have hin : f_X4_in (nI c) (nI 1) (nI 5) = some (nI 1) := by simp (disch := omega) [f_X4_in, gp_lit, gp_lt, show ¬ c = 0 by omega, show ¬ 5 < c by omega]
  by_cases c4 : ¬ (K i = c ∨ (K i = 5 ∧ c = 4))
  · obtain ⟨m2, e2, h2⟩ := gp_both h (f := 3) (by decide)
    have ff := gp_found (m := m) (f := 3) (by decide)
    have d1 : ¬ K i = c := fun z => c4 (Or.inl z)
    have hM' : gp_cM (gp_fc m 3) g d K Wt T G l S := hM.fr rfl rfl rfl rfl rfl
    have q2' := gp_iG hM' hg hi
    refine ⟨-3, gp_fc m 3, m2, ?_, ?_, h2⟩
    · by_cases d2 : K i = 5
      · have d3 : ¬ c = 4 := fun z => c4 (Or.inr ⟨d2, z⟩)
        simp (disch := omega) [f_X3_mark, q1, gp_lit, gp_eq, gp_lt, c1, c3, gp_rd, eC, d1, d2, d3, ff]
        intro z; omega
      · simp (disch := omega) [f_X3_mark, q1, gp_lit, gp_eq, gp_lt, c1, c3, gp_rd, eC, d1, d2, ff]
    · by_cases d2 : c = 4
      · have d3 : ¬ K i = 5 := fun z => c4 (Or.inr ⟨z, d2⟩)
        subst d2
        simp (disch := omega) [f_X4_mark, q2', gp_lit, gp_eq, hin, gp_rd, gp_fc_ne, eM, d1, d3, e2]
      · simp (disch := omega) [f_X4_mark, q2', gp_lit, gp_eq, hin, gp_rd, gp_fc_ne, eM, d1, d2, e2]
  have c4 := Classical.not_not.mp c4
  have t1 := gp_tellC hC o hi
  have t2 := gp_tellM hM o hi
  have tb := gp_tl_lt (c := K i) (s := T i) (o.2.2.1 i hi).2.2.1 hi
  have nb := gp_namC hn hC o (i := i) (by omega)
  have ob := gp_tolC hn hC o (i := i) (by omega)
  have lC := gp_leftC hC hg
  have lM := gp_leftM hM o
  have mk := fun k => gp_mkM hn hM o hi c3 k
  have bs1 := gp_bs1_lt (fun j => (gp_nm g K j (T j)).testBit i) g
  have bs2 := gp_bs1_lt (fun j => (T j).testBit i) g
  rcases (show c = 1 ∨ c = 2 ∨ c = 3 ∨ c = 4 ∨ c = 5 by omega) with rfl | rfl | rfl | rfl | rfl
  · have ek : K i = 1 := by omega
    have e1 := gp_bc (gp_bs1 (fun j => (T j).testBit i) g) (by omega)
    have e2 : gp_po (gp_bs1 (fun j => (T j).testBit i) g) = gp_ct (fun j => (T j).testBit i) g := gp_po_bs _ _ (by omega)
    have e3 := gp_ct_not (fun j => (T j).testBit i) (i := i) (o.2.2.1 i hi).2.2.2 g
    rw [if_pos hi] at e3
    have e4 : gp_ct (gp_mq g K T i 1) g = gp_ct (fun j => !(decide (j = i)) && !(T j).testBit i) g := gp_ct_cg (fun j _ => by simp [gp_mq])
    refine ⟨nI (gp_ct (gp_mq g K T i 1) g), m, m, ?_, ?_, h⟩
    · rw [e2] at e1
      simp (disch := omega) [f_X3_mark, q1, gp_lit, gp_eq, gp_lt, gp_rd, eC, ek, ob, e1, hC.1.1, pk_sub]
      rw [e4]
      congr 1
      omega
    · simp (disch := omega) [f_X4_mark, q2, gp_lit, gp_eq, gp_lt, hin, gp_rd, eM, ek]
      exact mk _
  · have ek : K i = 2 := by omega
    have e0 : gp_df (gp_df (gp_bs1 (fun j => (gp_nm g K j (T j)).testBit i) g) (gp_bs1 (fun j => (T j).testBit i) g)) (2 ^ i) = gp_bs1 (gp_mq g K T i 2) g := by
      apply Nat.eq_of_testBit_eq
      intro j
      rw [gp_df_tb, gp_df_tb, gp_bs1_tb, gp_bs1_tb, gp_bs1_tb, Nat.testBit_two_pow]
      by_cases z : j < g
      · by_cases z2 : i = j
        · subst z2; simp [gp_mq]
        · simp [gp_mq, z, z2, show ¬ j = i from fun q => z2 q.symm]
      · simp [z]
    have b := gp_bs1_lt (gp_mq g K T i 2) g
    have e1 := gp_bc (gp_bs1 (gp_mq g K T i 2) g) (by omega)
    rw [gp_po_bs _ _ (by omega)] at e1
    refine ⟨nI (gp_ct (gp_mq g K T i 2) g), m, m, ?_, ?_, h⟩
    · simp (disch := omega) [f_X3_mark, q1, gp_lit, gp_eq, gp_lt, gp_rd, eC, ek, ob, nb, gp_nt, gp_sh, gp_sh2, e0, e1]
    · simp (disch := omega) [f_X4_mark, q2, gp_lit, gp_eq, gp_lt, hin, gp_rd, eM, ek]
      exact mk _
  · have ek : K i = 3 := by omega
    have e0 : gp_df (gp_bs1 (fun j => (gp_nm g K j (T j)).testBit i) g) (2 ^ i) = gp_bs1 (gp_mq g K T i 3) g := by
      apply Nat.eq_of_testBit_eq
      intro j
      rw [gp_df_tb, gp_bs1_tb, gp_bs1_tb, Nat.testBit_two_pow]
      by_cases z : j < g
      · by_cases z2 : i = j
        · subst z2; simp [gp_mq]
        · simp [gp_mq, z, z2, show ¬ j = i from fun q => z2 q.symm]
      · simp [z]
    have b := gp_bs1_lt (gp_mq g K T i 3) g
    have e1 := gp_bc (gp_bs1 (gp_mq g K T i 3) g) (by omega)
    rw [gp_po_bs _ _ (by omega)] at e1
    refine ⟨nI (gp_ct (gp_mq g K T i 3) g), m, m, ?_, ?_, h⟩
    · simp (disch := omega) [f_X3_mark, q1, gp_lit, gp_eq, gp_lt, gp_rd, eC, ek, nb, gp_nt, gp_sh, gp_sh2, e0, e1]
    · simp (disch := omega) [f_X4_mark, q2, gp_lit, gp_eq, gp_lt, hin, gp_rd, eM, ek]
      exact mk _
  · have e1 := gp_bc (gp_tl (K i) i (T i)) (by omega)
    have e2 := gp_bits (s := gp_tl (K i) i (T i)) hn (by omega)
    refine ⟨nI (gp_po (gp_tl (K i) i (T i))), m, m, ?_, ?_, h⟩
    · rcases c4 with c4 | ⟨c4, -⟩ <;> rw [c4] at t1 e1 eC ⊢ <;> simp (disch := omega) [f_X3_mark, q1, gp_lit, gp_eq, gp_lt, gp_rd, eC, t1, e1]
    · rcases c4 with c4 | ⟨c4, -⟩ <;> rw [c4] at t2 e2 eM ⊢ <;> simp (disch := omega) [f_X4_mark, q2, gp_lit, gp_eq, gp_lt, hin, gp_rd, eM, t2, e2]
  · have ek : K i = 5 := by omega
    have b : gp_tl (K i) i (T i) &&& gp_lf g G < 128 := by
      have : gp_tl (K i) i (T i) &&& gp_lf g G ≤ gp_tl (K i) i (T i) := Nat.and_le_left
      omega
    have e1 := gp_bc _ b
    have e2 := gp_bits (s := gp_tl (K i) i (T i) &&& gp_lf g G) hn (by omega)
    refine ⟨nI (gp_po (gp_tl (K i) i (T i) &&& gp_lf g G)), m, m, ?_, ?_, h⟩
    · rw [ek] at t1 e1 eC ⊢
      simp (disch := omega) [f_X3_mark, q1, gp_lit, gp_eq, gp_lt, gp_rd, eC, t1, lC, gp_and, e1]
    · rw [ek] at t2 e2 eM ⊢
      simp (disch := omega) [f_X4_mark, q2, gp_lit, gp_eq, gp_lt, hin, gp_rd, eM, t2, lM, gp_and, e2]
