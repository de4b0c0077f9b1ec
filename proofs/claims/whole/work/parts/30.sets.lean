/-! PURE: sets of goers: tells, open, last -/
def gp_ct (P : Nat → Bool) : Nat → Nat
  | 0 => 0
  | n + 1 => gp_ct P n + if P n then 1 else 0
theorem gp_po_or : ∀ i, i < 8 → ∀ a, a < 128 → a < 2 ^ i → gp_po (a ||| 2 ^ i) = gp_po a + 1 := by decide +kernel
theorem gp_po_bs (P : Nat → Bool) : ∀ n, n ≤ 8 → gp_po (gp_bs1 P n) = gp_ct P n
  | 0, _ => by simp [gp_bs1, gp_ct, gp_po]
  | n + 1, h => by
    have ih := gp_po_bs P n (by omega)
    have hl := gp_bs1_lt P n
    have h7 := gp_p7 (g := n) (by omega)
    unfold gp_bs1 gp_ct
    by_cases hp : P n = true
    · rw [if_pos hp, if_pos hp, gp_po_or n (by omega) _ (by omega) hl, ih]
    · rw [if_neg hp, if_neg hp, ih]; rfl
theorem gp_ct_cg {P Q : Nat → Bool} : ∀ {n : Nat}, (∀ i, i < n → P i = Q i) → gp_ct P n = gp_ct Q n
  | 0, _ => rfl
  | n + 1, h => by rw [gp_ct, gp_ct, gp_ct_cg (fun i hi => h i (by omega)), h n (by omega)]
theorem gp_ct_le (P : Nat → Bool) : ∀ n, gp_ct P n ≤ n
  | 0 => Nat.le_refl 0
  | n + 1 => by
    have := gp_ct_le P n
    unfold gp_ct
    split <;> omega
theorem gp_all (g : Nat) : 2 ^ g - 1 = gp_bs1 (fun _ => true) g := by
  apply Nat.eq_of_testBit_eq
  intro i
  rw [gp_bs1_tb, Nat.testBit_two_pow_sub_one]
  simp
def gp_lf (g G : Nat) : Nat := gp_df (2 ^ g - 1) G
theorem gp_lf_tb (g G i : Nat) : (gp_lf g G).testBit i = (decide (i < g) && !G.testBit i) := by
  unfold gp_lf
  rw [gp_df_tb, Nat.testBit_two_pow_sub_one]
theorem gp_lf_lt (g G : Nat) : gp_lf g G < 2 ^ g := by
  apply gp_df_lt
  have := Nat.two_pow_pos g
  omega
section GPS
variable {m m' : gn_M} {g d : Nat} {K Wt T : Nat → Nat} {G l S : Nat}
theorem gp_nG (h : gp_cC m g d K Wt T G l S) (hg : g ≤ 7) {i : Nat} (hi : i < g) : f_X0_numbers m (nI i) = some (nI 1) := by
  simp (disch := omega) [f_X0_numbers, gp_lit, gp_lt, h.1.1, hi]
theorem gp_iG (h : gp_cM m g d K Wt T G l S) (hg : g ≤ 7) {i : Nat} (hi : i < g) : f_X4_isGoer m (nI i) = some (nI 1) := by
  have e2 : ¬ (nI g - nI 1 < nI i) := by rw [gp_sublt (by omega) (by omega) (by omega)]; omega
  simp (disch := omega) [f_X4_isGoer, f_X4_in, gp_lit, gp_lt, h.1.1, e2]
theorem gp_hS (h : gp_cC m g d K Wt T G l S) (hg : g ≤ 7) {s : Nat} (hs : s < 2 ^ g) : f_X0_holds m (nI s) = some (nI 1) := by
  have := gp_p7 hg
  simp (disch := omega) [f_X0_holds, gp_lit, gp_lt, h.1.1, gp_sh, hs]
theorem gp_iS (h : gp_cM m g d K Wt T G l S) (hg : g ≤ 7) {s : Nat} (hs : s < 2 ^ g) : f_X4_isSet m (nI s) = some (nI 1) := by
  have := gp_p7 hg
  have e2 : ¬ (nI (2 ^ g) - nI 1 < nI s) := by rw [gp_sublt (by omega) (by omega) (by omega)]; omega
  simp (disch := omega) [f_X4_isSet, f_X4_in, gp_lit, gp_lt, h.1.1, gp_sh, e2]
/-- a set, for both -/
theorem gp_sc (hg : g ≤ 7) (a : Int32) : ((∀ m, gp_cC m g d K Wt T G l S → f_X0_holds m a = some (nI 0)) ∧ ∀ m, gp_cM m g d K Wt T G l S → f_X4_isSet m a = some (nI 0)) ∨ ∃ s, s < 2 ^ g ∧ a = nI s := by
  have h7 := gp_p7 hg
  rcases gp_ix a (2 ^ g) (by omega) with q | ⟨j, hj, rfl⟩ | ⟨q1, q2⟩
  · have q : a < nI 0 := q
    exact Or.inl ⟨fun m h => by simp [f_X0_holds, gp_lit, q], fun m h => by simp [f_X4_isSet, f_X4_in, gp_lit, q]⟩
  · exact Or.inr ⟨j, hj, rfl⟩
  · have q1' : ¬ a < nI 0 := q1
    have e2 : nI (2 ^ g) - nI 1 < a := by
      obtain ⟨j, hj, rfl⟩ := nI_of q1
      rw [gp_lt (by omega) (by omega)] at q2
      rw [gp_sublt (by omega) (by omega) (by omega)]
      omega
    exact Or.inl ⟨fun m h => by simp (disch := omega) [f_X0_holds, gp_lit, h.1.1, gp_sh, q1', q2], fun m h => by simp (disch := omega) [f_X4_isSet, f_X4_in, gp_lit, q1', h.1.1, gp_sh, e2]⟩
theorem gp_leftC (h : gp_cC m g d K Wt T G l S) (hg : g ≤ 7) : f_X0_left m = some (nI (gp_lf g G)) := by
  have := Nat.two_pow_pos g
  simp (disch := omega) only [f_X0_left, gp_lit, h.1.1, h.1.2.2.1, gp_sh, pk_sub, gp_nt]
  rfl
theorem gp_leftM (h : gp_cM m g d K Wt T G l S) (o : gp_ok g d K Wt T G l S) : f_X4_left m = some (nI (gp_lf g G)) := by
  have := Nat.two_pow_pos g
  have hg := o.g7
  have e := gp_now h o.2.1 (j := 7) (by decide)
  simp (disch := omega) only [f_X4_left, gp_lit, e, gp_bs, h.1.1, h.1.2.2.1, gp_sh, pk_sub, gp_nt]
  rfl
theorem gp_namC {n : Nat} (hn : 5000 ≤ n) (h : gp_cC m g d K Wt T G l S) (o : gp_ok g d K Wt T G l S) {i : Nat} (hi : i < 31) : f_X0_namersOf n m (nI i) = some (nI (gp_bs1 (fun j => (gp_nm g K j (T j)).testBit i) g)) := by
  unfold f_X0_namersOf
  have hg := o.g7
  have h7 := gp_p7 hg
  have e := h.1.1
  refine gp_lp0 (Lf := fun f j (acc : Int32) => L_X0_namersOf_4 n m (nI i) (fun e => some e) f acc (nI j)) (N := g) (A := fun j => nI (gp_bs1 (fun j => (gp_nm g K j (T j)).testBit i) j)) (fun f j hj => ?_) (fun f => ?_) (by omega)
  · show L_X0_namersOf_4 n m (nI i) _ (f + 1) _ (nI j) = _
    rw [L_X0_namersOf_4]
    have e2 := gp_naming h hg (k := 30) (i := j) (by omega) (h.2.1 j hj).2.2
    have hl := gp_nm_lt (g := g) (K := K) (i := j) (t := T j) hj (o.2.2.1 j hj).2.2.1
    simp (disch := omega) only [gp_lit, e, gp_lt, hj, if_true, e2, gp_bs, gp_isIn, gp_ite1, gp_sh, nI_add, gp_or, gp_bs1]
    by_cases hb : (gp_nm g K j (T j)).testBit i = true <;> simp [hb]
  · show L_X0_namersOf_4 n m (nI i) _ (f + 1) _ (nI g) = _
    rw [L_X0_namersOf_4]
    simp (disch := omega) [e, gp_lt]
theorem gp_tolC {n : Nat} (hn : 5000 ≤ n) (h : gp_cC m g d K Wt T G l S) (o : gp_ok g d K Wt T G l S) {i : Nat} (hi : i < 31) : f_X0_toldOf n m (nI i) = some (nI (gp_bs1 (fun j => (T j).testBit i) g)) := by
  unfold f_X0_toldOf
  have hg := o.g7
  have h7 := gp_p7 hg
  have e := h.1.1
  refine gp_lp0 (Lf := fun f j (acc : Int32) => L_X0_toldOf_4 n m (nI i) (fun e => some e) f acc (nI j)) (N := g) (A := fun j => nI (gp_bs1 (fun j => (T j).testBit i) j)) (fun f j hj => ?_) (fun f => ?_) (by omega)
  · show L_X0_toldOf_4 n m (nI i) _ (f + 1) _ (nI j) = _
    rw [L_X0_toldOf_4]
    have e2 := (h.2.1 j hj).2.2
    have hl := (o.2.2.1 j hj).2.2.1
    simp (disch := omega) only [gp_lit, e, gp_lt, hj, if_true, gp_rd, e2, gp_bs, gp_isIn, gp_ite1, gp_sh, nI_add, gp_or, gp_bs1]
    by_cases hb : (T j).testBit i = true <;> simp [hb]
  · show L_X0_toldOf_4 n m (nI i) _ (f + 1) _ (nI g) = _
    rw [L_X0_toldOf_4]
    simp (disch := omega) [e, gp_lt]
theorem gp_opdC {n : Nat} (hn : 5000 ≤ n) (h : gp_cC m g d K Wt T G l S) (o : gp_ok g d K Wt T G l S) : f_X0_opened n m = some (nI (gp_bs1 (gp_op g K T G l) g)) := by
  unfold f_X0_opened
  have hg := o.g7
  have e := h.1.1
  refine gp_lp0 (Lf := fun f j (acc : Int32) => L_X0_opened_4 n m (fun e => some e) f acc (nI j)) (N := g) (A := fun j => nI (gp_bs1 (gp_op g K T G l) j)) (fun f j hj => ?_) (fun f => ?_) (by omega)
  · show L_X0_opened_4 n m _ (f + 1) _ (nI j) = _
    rw [L_X0_opened_4]
    have e2 := gp_opC h o hj
    simp (disch := omega) only [gp_lit, e, gp_lt, hj, if_true, e2, gp_bs, gp_ite1, gp_sh, nI_add, gp_or, gp_bs1]
    by_cases hb : gp_op g K T G l j = true <;> simp [hb]
  · show L_X0_opened_4 n m _ (f + 1) _ (nI g) = _
    rw [L_X0_opened_4]
    simp (disch := omega) [e, gp_lt]
theorem gp_opdM {n : Nat} (hn : 5000 ≤ n) (h : gp_cM m g d K Wt T G l S) (o : gp_ok g d K Wt T G l S) : f_X4_openTo n m = some (nI (gp_bs1 (gp_op g K T G l) g)) := by
  unfold f_X4_openTo
  have hg := o.g7
  have e := h.1.1
  refine gp_lp0 (Lf := fun f j (acc : Int32) => L_X4_openTo_4 n m (fun e => some e) f acc (nI j)) (N := g) (A := fun j => nI (gp_bs1 (gp_op g K T G l) j)) (fun f j hj => ?_) (fun f => ?_) (by omega)
  · show L_X4_openTo_4 n m _ (f + 1) _ (nI j) = _
    rw [L_X4_openTo_4]
    have e2 := gp_opM hn h o hj
    simp (disch := omega) only [gp_lit, e, gp_lt, hj, if_true, e2, gp_bs, gp_ite1, gp_sh, nI_add, gp_or, gp_bs1, Nat.or_zero]
    by_cases hb : gp_op g K T G l j = true <;> simp [hb]
  · show L_X4_openTo_4 n m _ (f + 1) _ (nI g) = _
    rw [L_X4_openTo_4]
    simp (disch := omega) [e, gp_lt]
/-- who can name the one that went last (all, if nobody has) -/
def gp_nl (g : Nat) (K T : Nat → Nat) (l i : Nat) : Bool := decide (l = 7) || (gp_nm g K i (T i)).testBit l
end GPS
theorem op_tells {m : gn_M} (h : gp_rel m) (a b : Int32) : ∃ r, f_X3_tells m a b = some r ∧ f_X4_tells m a b = some r := by
  obtain ⟨g, d, K, Wt, T, G, l, S, o, hC, hM⟩ := h.2.2.2.now
  have hg := o.g7
  rcases gp_gc hC hM hg a with ⟨q1, q2⟩ | ⟨i, hi, rfl, q1, q2⟩
  · exact ⟨-1, by simp [f_X3_tells, q1, gp_lit], by simp [f_X4_tells, q2, gp_lit]⟩
  · rcases gp_sc (d := d) (K := K) (Wt := Wt) (T := T) (G := G) (l := l) (S := S) hg b with ⟨p1, p2⟩ | ⟨s, hs, rfl⟩
    · exact ⟨-1, by simp (disch := omega) [f_X3_tells, q1, gp_lit, gp_eq, p1 m hC], by simp (disch := omega) [f_X4_tells, q2, gp_lit, gp_eq, p2 m hM]⟩
    · have e1 := gp_tA (c := K i) (i := i) (s := s) (o.2.2.1 i hi).1 (by omega)
      have e2 := gp_tB (c := K i) (i := i) (s := s) (o.2.2.1 i hi).1 (by omega)
      exact ⟨nI (gp_tl (K i) i s), by simp (disch := omega) [f_X3_tells, q1, gp_lit, gp_eq, gp_hS hC hg hs, gp_rd, (hC.2.1 i hi).1, e1], by simp (disch := omega) [f_X4_tells, q2, gp_lit, gp_eq, gp_iS hM hg hs, gp_rd, (hM.2 i hi).1, e2]⟩
theorem op_open {n : Nat} (hn : 5000 ≤ n) {m : gn_M} (h : gp_rel m) : ∃ r m1 m2, f_X3_open n m = some (r, m1) ∧ f_X4_open n m1 = some (r, m2) ∧ gp_rel m2 := by
  obtain ⟨g, d, K, Wt, T, G, l, S, o, hC, hM⟩ := h.2.2.2.now
  have hg := o.g7
  have h7 := gp_p7 hg
  have hp := Nat.two_pow_pos g
  obtain ⟨v, hv⟩ : ∃ v, v = nI (gp_ct (gp_nl g K T l) g) := ⟨_, rfl⟩
  have hC' : gp_cC (gn_up m 0 10 v) g d K Wt T G l S := hC.fr rfl rfl rfl rfl rfl
  have hM' : gp_cM (gn_up m 0 10 v) g d K Wt T G l S := hM.fr rfl rfl rfl rfl rfl
  have hM'' : gp_cM (gn_up (gn_up m 0 10 v) 38 2 v) g d K Wt T G l S := hM.fr rfl rfl rfl rfl rfl
  refine ⟨nI (gp_bs1 (gp_op g K T G l) g), gn_up m 0 10 v, gn_up (gn_up m 0 10 v) 38 2 v, ?_, ?_, gp_rel_told h v⟩
  · have e1 := gp_opdC hn hC' o
    have e3 := hC.1.2.2.2.1
    unfold f_X3_open gn_jn
    rcases o.2.2.2.2.2 with hl | hl
    · rw [gp_lI7 (by omega)] at e3
      have e2 := gp_namC hn hC o (i := l) (by omega)
      have e4 := gp_bc (gp_bs1 (fun j => (gp_nm g K j (T j)).testBit l) g) (by have := gp_bs1_lt (fun j => (gp_nm g K j (T j)).testBit l) g; omega)
      have e5 : gp_po (gp_bs1 (fun j => (gp_nm g K j (T j)).testBit l) g) = gp_ct (gp_nl g K T l) g := by
        rw [gp_po_bs _ _ (by omega)]
        exact gp_ct_cg (fun i _ => by simp [gp_nl, show ¬ l = 7 by omega])
      rw [e5, ← hv] at e4
      simp (disch := omega) [gp_lit, e3, gp_lIne, e2, e4, gp_pf, e1]
    · subst hl
      rw [gp_lI9] at e3
      have e4 := gp_bc (2 ^ g - 1) (by omega)
      have e5 : gp_po (2 ^ g - 1) = gp_ct (gp_nl g K T 7) g := by
        rw [gp_all, gp_po_bs _ _ (by omega)]
        exact gp_ct_cg (fun i _ => by simp [gp_nl])
      rw [e5, ← hv] at e4
      simp (disch := omega) [gp_lit, e3, hC.1.1, gp_sh, pk_sub, e4, gp_pf, e1]
  · have e := hM'.1.1
    have e3 := gp_now hM' o.2.1 (j := 8) (by decide)
    rw [hM'.1.2.2.2.1] at e3
    have lp : ∀ k : Int32 → Option (Int32 × gn_M), L_X4_open_4 n (gn_up m 0 10 v) k n 0 0 = k v := by
      intro k
      rw [hv]
      rw [← hv]
      refine (gp_lp0 (Lf := fun f j (acc : Int32) => L_X4_open_4 n (gn_up m 0 10 v) k f acc (nI j)) (N := g) (A := fun j => nI (gp_ct (gp_nl g K T l) j)) (r := k v) (fun f j hj => ?_) (fun f => ?_) (by omega))
      · show L_X4_open_4 n (gn_up m 0 10 v) k (f + 1) _ (nI j) = _
        rw [L_X4_open_4]
        have e2 := gp_namesOf hn hM' o hj
        have hl' := gp_nm_lt (g := g) (K := K) (i := j) (t := T j) hj (o.2.2.1 j hj).2.2.1
        rcases o.2.2.2.2.2 with hl | hl
        · rw [gp_lI7 (by omega)] at e3
          have e4 := gp_has (s := gp_nm g K j (T j)) (i := l) (by omega) (by omega)
          cases hb : (gp_nm g K j (T j)).testBit l <;> simp (disch := omega) [gp_lit, e, gp_lt, hj, e3, gp_lIne, e2, e4, hb, gp_eq, nI_add, gp_ct, gp_nl, show ¬ l = 7 by omega]
        · subst hl
          rw [gp_lI9] at e3
          simp (disch := omega) [gp_lit, e, gp_lt, hj, e3, nI_add, gp_ct, gp_nl]
      · show L_X4_open_4 n (gn_up m 0 10 v) k (f + 1) _ (nI g) = _
        rw [L_X4_open_4]
        simp (disch := omega) only [e, gp_lt, Nat.lt_irrefl, if_false]
        rw [← hv]
    unfold f_X4_open
    rw [lp]
    simp [gp_tM, gp_opdM hn hM'' o]
