/-! PURE: count, digest -/
/-- a size: missing, or so many -/
def gp_zs (x : Int32) (N : Nat) : Prop := x = -1 ∨ ∃ s : Nat, s ≤ N ∧ x = nI s
theorem gp_zs_le {x : Int32} {N : Nat} (h : gp_zs x N) (hN : N < 2147483648) : x.toNatClampNeg ≤ N := by
  rcases h with rfl | ⟨s, hs, rfl⟩
  · have : (-1 : Int32).toNatClampNeg = 0 := by decide
    omega
  · rw [gp_cl (by omega)]; exact hs
theorem gp_zs_lt {x : Int32} {N i : Nat} (h : gp_zs x N) (hN : N < 2147483648) (hi : i < 2147483648) : (nI i < x) = (i < x.toNatClampNeg) := by
  rcases h with rfl | ⟨s, hs, rfl⟩
  · have e0 : (-1 : Int32).toNatClampNeg = 0 := by decide
    rw [e0]
    apply propext
    constructor
    · intro q
      rw [Int32.lt_iff_toInt_lt, nI_toInt (by omega)] at q
      have e1 : (-1 : Int32).toInt = -1 := by decide
      omega
    · intro q; omega
  · rw [gp_lt hi (by omega), gp_cl (by omega)]
def gp_up (f : Nat → Int32) (i : Nat) : Bool := decide (¬ f i < nI 0)
theorem gp_ct_min {P : Nat → Bool} {a : Nat} : ∀ n, a ≤ n → gp_ct (fun i => decide (i < a) && P i) n = gp_ct P a
  | 0, h => by rw [show a = 0 by omega]; rfl
  | n + 1, h => by
    by_cases e : a = n + 1
    · subst e
      exact gp_ct_cg (fun i hi => by simp [hi])
    · rw [gp_ct, gp_ct_min n (by omega)]
      simp [show ¬ n < a by omega]
theorem gp_presR {n : Nat} (hn : 5000 ≤ n) {m : gn_M} : f_X2_present_r n m = some (nI (gp_ct (gp_up (m.1 3)) 6)) := by
  unfold f_X2_present_r
  refine gp_lp0 (Lf := fun f j (acc : Int32) => L_X2_present_r_4 n m (fun e => some e) f acc (nI j)) (N := 6) (A := fun j => nI (gp_ct (gp_up (m.1 3)) j)) (fun f j hj => ?_) (fun f => ?_) (by omega)
  · show L_X2_present_r_4 n m _ (f + 1) _ (nI j) = _
    rw [L_X2_present_r_4]
    simp (disch := omega) only [gp_lit, gp_lt, hj, if_true, gp_rd, nI_add, gp_ct, gp_up]
    by_cases hb : m.1 3 j < nI 0 <;> simp [hb]
  · show L_X2_present_r_4 n m _ (f + 1) _ (nI 6) = _
    rw [L_X2_present_r_4]
    simp (disch := omega) [gp_lit, gp_lt]
theorem gp_presT {n : Nat} (hn : 5000 ≤ n) {m : gn_M} : f_X2_present_t n m = some (nI (gp_ct (gp_up (m.1 6)) 4)) := by
  unfold f_X2_present_t
  refine gp_lp0 (Lf := fun f j (acc : Int32) => L_X2_present_t_4 n m (fun e => some e) f acc (nI j)) (N := 4) (A := fun j => nI (gp_ct (gp_up (m.1 6)) j)) (fun f j hj => ?_) (fun f => ?_) (by omega)
  · show L_X2_present_t_4 n m _ (f + 1) _ (nI j) = _
    rw [L_X2_present_t_4]
    simp (disch := omega) only [gp_lit, gp_lt, hj, if_true, gp_rd, nI_add, gp_ct, gp_up]
    by_cases hb : m.1 6 j < nI 0 <;> simp [hb]
  · show L_X2_present_t_4 n m _ (f + 1) _ (nI 4) = _
    rw [L_X2_present_t_4]
    simp (disch := omega) [gp_lit, gp_lt]
theorem gp_keptC {n : Nat} (hn : 5000 ≤ n) {m : gn_M} : f_X3_keptGates n m = some (nI (gp_ct (gp_up (m.1 23)) 3)) := by
  unfold f_X3_keptGates
  refine gp_lp0 (Lf := fun f j (acc : Int32) => L_X3_keptGates_4 n m (fun e => some e) f acc (nI j)) (N := 3) (A := fun j => nI (gp_ct (gp_up (m.1 23)) j)) (fun f j hj => ?_) (fun f => ?_) (by omega)
  · show L_X3_keptGates_4 n m _ (f + 1) _ (nI j) = _
    rw [L_X3_keptGates_4]
    simp (disch := omega) only [gp_lit, gp_lt, hj, if_true, gp_rd, nI_add, gp_ct, gp_up]
    by_cases hb : m.1 23 j < nI 0 <;> simp [hb]
  · show L_X3_keptGates_4 n m _ (f + 1) _ (nI 3) = _
    rw [L_X3_keptGates_4]
    simp (disch := omega) [gp_lit, gp_lt]
def gp_ta (m : gn_M) (w i : Nat) : Bool := if w = 7 then gp_up (m.1 40) i else if w = 8 then decide (i < 4) && gp_up (m.1 42) i else decide (i < 3) && gp_up (m.1 50) i
theorem gp_there7 {n : Nat} {m : gn_M} {k : Int32 → Option Int32} {f j : Nat} {a : Int32} (hj : j < 6) : L_X4_thereAre_4 n m (nI 7) k (f + 1) a (nI j) = L_X4_thereAre_4 n m (nI 7) k f (a + nI (if gp_up (m.1 40) j then 1 else 0)) (nI (j + 1)) := by
  rw [L_X4_thereAre_4]
  have z : ∀ x : Int32, x + nI 0 = x := fun x => by rw [show nI 0 = (0 : Int32) from rfl]; exact Int32.add_zero x
  by_cases hb : m.1 40 j < nI 0
  · simp (disch := omega) only [gn_jn, gp_lit, gp_lt, gp_eq, hj, gp_rd, nI_add, gp_up, hb, if_true, if_false, not_true, decide_false, Bool.false_eq_true, reduceCtorEq, z, Nat.reduceEqDiff]
  · simp (disch := omega) only [gn_jn, gp_lit, gp_lt, gp_eq, hj, gp_rd, nI_add, gp_up, hb, if_true, if_false, not_false_iff, decide_true, z, Nat.reduceEqDiff]
theorem gp_there8 {n : Nat} {m : gn_M} {k : Int32 → Option Int32} {f j : Nat} {a : Int32} (hj : j < 6) : L_X4_thereAre_4 n m (nI 8) k (f + 1) a (nI j) = L_X4_thereAre_4 n m (nI 8) k f (a + nI (if (decide (j < 4) && gp_up (m.1 42) j) then 1 else 0)) (nI (j + 1)) := by
  rw [L_X4_thereAre_4]
  have z : ∀ x : Int32, x + nI 0 = x := fun x => by rw [show nI 0 = (0 : Int32) from rfl]; exact Int32.add_zero x
  by_cases h4 : j < 4
  · by_cases hb : m.1 42 j < nI 0
    · simp (disch := omega) only [gn_jn, gp_lit, gp_lt, gp_eq, hj, h4, gp_rd, nI_add, gp_up, hb, if_true, if_false, not_true, decide_false, Bool.false_eq_true, Bool.and_false, Bool.true_and, decide_true, z, Nat.reduceEqDiff]
    · simp (disch := omega) only [gn_jn, gp_lit, gp_lt, gp_eq, hj, h4, gp_rd, nI_add, gp_up, hb, if_true, if_false, not_false_iff, decide_true, Bool.true_and, z, Nat.reduceEqDiff]
  · simp (disch := omega) only [gn_jn, gp_lit, gp_lt, gp_eq, hj, h4, nI_add, if_true, if_false, decide_false, Bool.false_and, Bool.false_eq_true, z, Nat.reduceEqDiff]
theorem gp_jnN {α β : Type} {c : Prop} [Decidable c] {K : α → Option β} {A : (α → Option β) → Option β} {x : α} (h : ¬ c) : gn_jn K (fun J => if c then A J else J x) = K x := if_neg h
theorem gp_there9 {n : Nat} {m : gn_M} {k : Int32 → Option Int32} {f j : Nat} {a : Int32} (hj : j < 6) : L_X4_thereAre_4 n m (nI 9) k (f + 1) a (nI j) = L_X4_thereAre_4 n m (nI 9) k f (a + nI (if (decide (j < 3) && gp_up (m.1 50) j) then 1 else 0)) (nI (j + 1)) := by
  rw [L_X4_thereAre_4]
  have z : ∀ x : Int32, x + (0 : Int32) = x := fun x => Int32.add_zero x
  have q6 : nI j < (6 : Int32) := by rw [show (6 : Int32) = nI 6 from rfl, gp_lt (by omega) (by omega)]; exact hj
  have q7 : ¬ nI 9 = (7 : Int32) := by decide
  have q8 : ¬ nI 9 = (8 : Int32) := by decide
  have q9 : nI 9 = (9 : Int32) := by decide
  have q1 : nI (j + 1) = nI j + (1 : Int32) := by rw [show (1 : Int32) = nI 1 from rfl, nI_add]
  rw [if_pos q6]
  refine Eq.trans (gp_jnN q7) ?_
  refine Eq.trans (gp_jnN q8) ?_
  rw [if_pos q9, q1]
  by_cases h4 : j < 3
  · have q3 : nI j < (3 : Int32) := by rw [show (3 : Int32) = nI 3 from rfl, gp_lt (by omega) (by omega)]; exact h4
    rw [if_pos q3, if_pos q3, gp_rd h4 (by omega)]
    by_cases hb : m.1 50 j < (0 : Int32)
    · have e : (decide (j < 3) && gp_up (m.1 50) j) = false := by
        rw [gp_up, show nI 0 = (0 : Int32) from rfl]; simp [hb]
      rw [e, if_pos hb, z, z, z]
      rw [show nI (if false = true then 1 else 0) = (0 : Int32) from rfl, z]
    · have e : (decide (j < 3) && gp_up (m.1 50) j) = true := by
        rw [gp_up, show nI 0 = (0 : Int32) from rfl]; simp [hb, h4]
      rw [e, if_neg hb, z, z]
      rfl
  · have q3 : ¬ nI j < (3 : Int32) := by rw [show (3 : Int32) = nI 3 from rfl, gp_lt (by omega) (by omega)]; exact h4
    have e : (decide (j < 3) && gp_up (m.1 50) j) = false := by simp [h4]
    rw [if_neg q3, e, z, z, z]
    rw [show nI (if false = true then 1 else 0) = (0 : Int32) from rfl, z]
theorem gp_ct_s (P : Nat → Bool) (j : Nat) : nI (gp_ct P j) + nI (if P j then 1 else 0) = nI (gp_ct P (j + 1)) := by
  rw [gp_ct, nI_add]
theorem gp_there {n : Nat} (hn : 5000 ≤ n) {m : gn_M} {w : Nat} (hw : w = 7 ∨ w = 8 ∨ w = 9) : f_X4_thereAre n m (nI w) = some (nI (gp_ct (gp_ta m w) 6)) := by
  unfold f_X4_thereAre
  refine gp_lp0 (Lf := fun f j (acc : Int32) => L_X4_thereAre_4 n m (nI w) (fun e => some e) f acc (nI j)) (N := 6) (A := fun j => nI (gp_ct (gp_ta m w) j)) (fun f j hj => ?_) (fun f => ?_) (by omega)
  · show L_X4_thereAre_4 n m (nI w) _ (f + 1) _ (nI j) = L_X4_thereAre_4 n m (nI w) _ f (nI (gp_ct (gp_ta m w) (j + 1))) (nI (j + 1))
    rw [← gp_ct_s (gp_ta m w) j]
    rcases hw with rfl | rfl | rfl
    · exact gp_there7 hj
    · exact gp_there8 hj
    · exact gp_there9 hj
  · show L_X4_thereAre_4 n m (nI w) _ (f + 1) _ (nI 6) = _
    rw [L_X4_thereAre_4]
    simp (disch := omega) only [gp_lit, gp_lt, Nat.lt_irrefl, if_false]
def gp_cn (m : gn_M) (g d : Nat) (K T : Nat → Nat) (G l S w : Nat) : Int32 :=
  if w = 0 then nI g else if w = 1 then nI (gp_po G) else if w = 2 then nI d else if w = 3 then gp_lI l else if w = 4 then nI G else if w = 5 then nI S else if w = 6 then nI (gp_po (gp_bs1 (gp_op g K T G l) g)) else if w = 7 then nI (gp_ct (gp_up (m.1 3)) 6) else if w = 8 then nI (gp_ct (gp_up (m.1 6)) 4) else if w = 9 then nI (gp_ct (gp_up (m.1 23)) 3) else if w = 10 then nI (gp_po (gp_kd g K 4 ||| gp_kd g K 5)) else nI (gp_po (gp_kd g K 1))
section GPD
variable {m : gn_M} {g d : Nat} {K Wt T : Nat → Nat} {G l S : Nat}
theorem gp_cnC {n : Nat} (hn : 5000 ≤ n) (h : gp_cC m g d K Wt T G l S) (o : gp_ok g d K Wt T G l S) {w : Nat} (hw : w < 12) : f_X3_countOf n m (nI w) = some (gp_cn m g d K T G l S w) := by
  have hg := o.g7
  have h7 := gp_p7 hg
  have b1 := gp_bc G (by have := o.2.2.2.1; omega)
  have b2 := gp_bc (gp_bs1 (gp_op g K T G l) g) (by have := gp_bs1_lt (gp_op g K T G l) g; omega)
  have b3 := gp_bc (gp_kd g K 4 ||| gp_kd g K 5) (by have := gp_or_lt (gp_kd_lt (g := g) (K := K) (c := 4)) (gp_kd_lt (g := g) (K := K) (c := 5)); omega)
  have b4 := gp_bc (gp_kd g K 1) (by have := gp_kd_lt (g := g) (K := K) (c := 1); omega)
  have e1 := gp_opdC hn h o
  have k1 : m.1 31 1 = nI (gp_kd g K 1) := h.2.2 1 (by decide)
  have k4 : m.1 31 4 = nI (gp_kd g K 4) := h.2.2 4 (by decide)
  have k5 : m.1 31 5 = nI (gp_kd g K 5) := h.2.2 5 (by decide)
  rcases (show w = 0 ∨ w = 1 ∨ w = 2 ∨ w = 3 ∨ w = 4 ∨ w = 5 ∨ w = 6 ∨ w = 7 ∨ w = 8 ∨ w = 9 ∨ w = 10 ∨ w = 11 by omega) with rfl | rfl | rfl | rfl | rfl | rfl | rfl | rfl | rfl | rfl | rfl | rfl
  all_goals simp (disch := omega) [f_X3_countOf, gp_lit, gp_eq, gp_cn, h.1.1, h.1.2.1, h.1.2.2.1, h.1.2.2.2.1, h.1.2.2.2.2, b1, b2, b3, b4, e1, k1, k4, k5, gp_rd, gp_or, gp_presR hn, gp_presT hn, gp_keptC hn]
theorem gp_cnM {n : Nat} (hn : 5000 ≤ n) (h : gp_cM m g d K Wt T G l S) (o : gp_ok g d K Wt T G l S) (r3 : ∀ i, i < 6 → m.1 40 i = m.1 3 i) (r6 : ∀ i, i < 4 → m.1 42 i = m.1 6 i) (r23 : ∀ i, i < 3 → m.1 50 i = m.1 23 i) {w : Nat} (hw : w < 12) : f_X4_count n m (nI w) = some (gp_cn m g d K T G l S w) := by
  have hg := o.g7
  have h7 := gp_p7 hg
  have b1 := gp_bits (s := G) hn (by have := o.2.2.2.1; omega)
  have b2 := gp_bits (s := gp_bs1 (gp_op g K T G l) g) hn (by have := gp_bs1_lt (gp_op g K T G l) g; omega)
  have b3 := gp_bits (s := gp_kd g K 4 ||| gp_kd g K 5) hn (by have := gp_or_lt (gp_kd_lt (g := g) (K := K) (c := 4)) (gp_kd_lt (g := g) (K := K) (c := 5)); omega)
  have b4 := gp_bits (s := gp_kd g K 1) hn (by have := gp_kd_lt (g := g) (K := K) (c := 1); omega)
  have e1 := gp_opdM hn h o
  have hK := fun i hi => (o.2.2.1 i hi).1
  have k1 := gp_ofK hn h hg hK (c := 1) (by decide)
  have k4 := gp_ofK hn h hg hK (c := 4) (by decide)
  have k5 := gp_ofK hn h hg hK (c := 5) (by decide)
  have n7 := gp_now h o.2.1 (j := 7) (by decide)
  have n8 := gp_now h o.2.1 (j := 8) (by decide)
  have n9 := gp_now h o.2.1 (j := 9) (by decide)
  rw [h.1.2.2.1] at n7
  rw [h.1.2.2.2.1] at n8
  rw [h.1.2.2.2.2] at n9
  have t7 := gp_there (m := m) hn (w := 7) (by simp)
  have t8 := gp_there (m := m) hn (w := 8) (by simp)
  have t9 := gp_there (m := m) hn (w := 9) (by simp)
  have c7 : gp_ct (gp_ta m 7) 6 = gp_ct (gp_up (m.1 3)) 6 := gp_ct_cg (fun i hi => by simp [gp_ta, gp_up, r3 i hi])
  have c8 : gp_ct (gp_ta m 8) 6 = gp_ct (gp_up (m.1 6)) 4 := by
    rw [show gp_ct (gp_up (m.1 6)) 4 = gp_ct (gp_up (m.1 42)) 4 from gp_ct_cg (fun i hi => by simp [gp_up, r6 i hi]), ← gp_ct_min (P := gp_up (m.1 42)) (a := 4) 6 (by decide)]
    rfl
  have c9 : gp_ct (gp_ta m 9) 6 = gp_ct (gp_up (m.1 23)) 3 := by
    rw [show gp_ct (gp_up (m.1 23)) 3 = gp_ct (gp_up (m.1 50)) 3 from gp_ct_cg (fun i hi => by simp [gp_up, r23 i hi]), ← gp_ct_min (P := gp_up (m.1 50)) (a := 3) 6 (by decide)]
    rfl
  rw [c7] at t7
  rw [c8] at t8
  rw [c9] at t9
  rcases (show w = 0 ∨ w = 1 ∨ w = 2 ∨ w = 3 ∨ w = 4 ∨ w = 5 ∨ w = 6 ∨ w = 7 ∨ w = 8 ∨ w = 9 ∨ w = 10 ∨ w = 11 by omega) with rfl | rfl | rfl | rfl | rfl | rfl | rfl | rfl | rfl | rfl | rfl | rfl
  all_goals simp (disch := omega) [f_X4_count, gp_lit, gp_eq, gp_cn, h.1.1, h.1.2.1, n7, n8, n9, b1, b2, b3, b4, e1, k1, k4, k5, gp_or, t7, t8, t9]
end GPD
theorem gp_gate.r23 {m : gn_M} (h : gp_gate m) : ∀ i, i < 3 → m.1 50 i = m.1 23 i := by
  obtain ⟨g, K, Wt, T0, d, ds, -, -, c⟩ := h
  exact fun i hi => (c i hi).1
theorem op_count {n : Nat} (hn : 5000 ≤ n) {m : gn_M} (h : gp_rel m) (a : Int32) : ∃ r, f_X3_count n m a = some r ∧ f_X4_count n m a = some r := by
  obtain ⟨g, d, K, Wt, T, G, l, S, o, hC, hM⟩ := h.2.2.2.now
  have hg := o.g7
  rcases gp_ix a 12 (by decide) with q | ⟨w, hw, rfl⟩ | ⟨p1, p2⟩
  · have q : a < nI 0 := q
    have ne : ∀ k : Nat, k < 12 → ¬ a = nI k := fun k hk e => by
      rw [e, gp_nn (by omega)] at q
      exact q
    exact ⟨-1, by simp [f_X3_count, gp_lit, q], by simp (disch := omega) [f_X4_count, gp_lit, ne]⟩
  · have e1 := gp_cnC hn hC o hw
    have e2 := gp_cnM hn hM o (fun i hi => (h.1.2 i hi).1) (fun i hi => (h.2.1.2 i hi).1) h.2.2.2.r23 hw
    exact ⟨_, by simp (disch := omega) [f_X3_count, gp_lit, gp_lt, hw, e1], e2⟩
  · have p1' : ¬ a < nI 0 := p1
    have p2' : ¬ a < nI 12 := p2
    have ne : ∀ k : Nat, k < 12 → ¬ a = nI k := fun k hk e => p2 (by rw [e, gp_lt (by omega) (by omega)]; exact hk)
    exact ⟨-1, by simp [f_X3_count, gp_lit, p1', p2'], by simp (disch := omega) [f_X4_count, gp_lit, ne]⟩
