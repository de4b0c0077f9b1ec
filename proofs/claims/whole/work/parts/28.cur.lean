/-! PURE: the gate as it is now: the class's cells, the reference's -/
def gp_cC (m : gn_M) (g d : Nat) (K Wt T : Nat → Nat) (G l S : Nat) : Prop := (m.1 7 6 = nI g ∧ m.1 7 7 = nI d ∧ m.1 7 8 = nI G ∧ m.1 7 9 = gp_lI l ∧ m.1 7 10 = nI S) ∧ (∀ i, i < g → m.1 27 i = nI (K i) ∧ m.1 28 i = nI (Wt i) ∧ m.1 30 i = nI (T i)) ∧ ∀ c, c < 6 → m.1 31 c = nI (gp_bs1 (fun i => K i == c) g)
def gp_cM (m : gn_M) (g d : Nat) (K Wt T : Nat → Nat) (G l S : Nat) : Prop := (m.1 38 10 = nI g ∧ m.1 38 16 = nI d ∧ m.1 48 (10 * d + 7) = nI G ∧ m.1 48 (10 * d + 8) = gp_lI l ∧ m.1 48 (10 * d + 9) = nI S) ∧ ∀ i, i < g → m.1 45 i = nI (K i) ∧ m.1 46 i = nI (Wt i) ∧ m.1 48 (10 * d + i) = nI (T i)
def gp_ok (g d : Nat) (K Wt T : Nat → Nat) (G l S : Nat) : Prop := (g = 0 ∨ (2 ≤ g ∧ g ≤ 7)) ∧ d ≤ 40 ∧ (∀ i, i < g → K i < 6 ∧ Wt i ≤ 9 ∧ T i < 2 ^ g ∧ (T i).testBit i = false) ∧ G < 2 ^ g ∧ S < 2 ^ g ∧ (l < g ∨ l = 7)
theorem gp_p7 {g : Nat} (h : g ≤ 7) : 2 ^ g ≤ 128 := Nat.pow_le_pow_right (by decide) h
theorem gp_tb_lt {a g i : Nat} (h : a < 2 ^ g) (hi : a.testBit i = true) : i < g := by
  rcases Nat.lt_or_ge i g with q | q
  · exact q
  · have := Nat.testBit_lt_two_pow (Nat.lt_of_lt_of_le h (Nat.pow_le_pow_right (by decide) q))
    rw [this] at hi
    cases hi
theorem gp_or_lt {a b g : Nat} (ha : a < 2 ^ g) (hb : b < 2 ^ g) : a ||| b < 2 ^ g := Nat.or_lt_two_pow ha hb
theorem gp_df_lt {a b g : Nat} (ha : a < 2 ^ g) : gp_df a b < 2 ^ g := by
  apply Nat.lt_pow_two_of_testBit
  intro i hi
  rw [gp_df_tb, Nat.testBit_lt_two_pow (Nat.lt_of_lt_of_le ha (Nat.pow_le_pow_right (by decide) hi))]
  rfl
theorem gp_2_lt {i g : Nat} (h : i < g) : 2 ^ i < 2 ^ g := Nat.pow_lt_pow_right (by decide) h
theorem gp_tl_lt {c i s g : Nat} (hs : s < 2 ^ g) (hi : i < g) : gp_tl c i s < 2 ^ g := by
  unfold gp_tl
  split
  · exact Nat.two_pow_pos g
  · split
    · exact gp_or_lt hs (gp_2_lt hi)
    · split
      · exact gp_df_lt hs
      · exact gp_2_lt hi
theorem gp_z {a : Nat} : a = 0 ↔ ∀ j, a.testBit j = false := ⟨fun h j => by rw [h]; exact Nat.zero_testBit j, fun h => Nat.eq_of_testBit_eq (fun j => by rw [h j, Nat.zero_testBit])⟩
/-- those of a kind; whom one can name, being told of some -/
def gp_kd (g : Nat) (K : Nat → Nat) (c : Nat) : Nat := gp_bs1 (fun i => K i == c) g
def gp_nm (g : Nat) (K : Nat → Nat) (i t : Nat) : Nat := if ((t ||| 2 ^ i) ||| gp_kd g K 1) &&& gp_kd g K 2 = 0 then (t ||| 2 ^ i) ||| gp_kd g K 1 else ((t ||| 2 ^ i) ||| gp_kd g K 1) ||| gp_kd g K 2
theorem gp_kd_lt {g : Nat} {K : Nat → Nat} {c : Nat} : gp_kd g K c < 2 ^ g := gp_bs1_lt _ _
theorem gp_nm_lt {g : Nat} {K : Nat → Nat} {i t : Nat} (hi : i < g) (ht : t < 2 ^ g) : gp_nm g K i t < 2 ^ g := by
  unfold gp_nm
  split
  · exact gp_or_lt (gp_or_lt ht (gp_2_lt hi)) gp_kd_lt
  · exact gp_or_lt (gp_or_lt (gp_or_lt ht (gp_2_lt hi)) gp_kd_lt) gp_kd_lt
theorem gp_kd_ap {g : Nat} {K : Nat → Nat} {c c' : Nat} (h : c ≠ c') (j : Nat) : ((gp_kd g K c).testBit j && (gp_kd g K c').testBit j) = false := by
  unfold gp_kd
  rw [gp_bs1_tb, gp_bs1_tb]
  by_cases e : K j = c
  · simp [e, h]
  · simp [e]
theorem gp_nm_iff {g : Nat} {K : Nat → Nat} {i t : Nat} : (((t ||| 2 ^ i) ||| gp_kd g K 1) &&& gp_kd g K 2 = 0) ↔ ((gp_kd g K 2).testBit i = false ∧ t &&& gp_kd g K 2 = 0) := by
  rw [gp_z, gp_z]
  constructor
  · intro h
    refine ⟨?_, fun j => ?_⟩
    · have := h i
      rw [Nat.testBit_and, Nat.testBit_or, Nat.testBit_or, Nat.testBit_two_pow_self] at this
      simpa using this
    · have := h j
      rw [Nat.testBit_and, Nat.testBit_or, Nat.testBit_or] at this
      rw [Nat.testBit_and]
      revert this
      cases t.testBit j <;> cases (gp_kd g K 2).testBit j <;> simp
  · rintro ⟨h1, h2⟩ j
    have h3 := h2 j
    have h4 := gp_kd_ap (g := g) (K := K) (c := 1) (c' := 2) (by decide) j
    rw [Nat.testBit_and] at h3
    rw [Nat.testBit_and, Nat.testBit_or, Nat.testBit_or, Nat.testBit_two_pow]
    by_cases e : i = j
    · subst e; simp [h1]
    · revert h3 h4
      cases t.testBit j <;> cases (gp_kd g K 2).testBit j <;> cases (gp_kd g K 1).testBit j <;> simp [e]
section GPC
variable {m : gn_M} {g d : Nat} {K Wt T : Nat → Nat} {G l S : Nat}
theorem gp_numb (h : gp_cC m g d K Wt T G l S) (hg : g ≤ 7) (i : Int32) : (f_X0_numbers m i = some (nI 0) ∧ (i < nI 0 ∨ nI g - nI 1 < i)) ∨ ∃ j, j < g ∧ i = nI j ∧ f_X0_numbers m (nI j) = some (nI 1) := by
  have e := h.1.1
  rcases gp_ix i g (by omega) with q | ⟨j, hj, rfl⟩ | ⟨q1, q2⟩
  · have q : i < nI 0 := q
    exact Or.inl ⟨by simp [f_X0_numbers, gp_lit, q], Or.inl q⟩
  · exact Or.inr ⟨j, hj, rfl, by simp (disch := omega) [f_X0_numbers, gp_lit, gp_lt, e, hj]⟩
  · have q1' : ¬ i < nI 0 := q1
    refine Or.inl ⟨by simp [f_X0_numbers, gp_lit, q1', e, q2], Or.inr ?_⟩
    obtain ⟨j, hj, rfl⟩ := nI_of q1
    rw [gp_lt (by omega) (by omega)] at q2
    rw [gp_sublt (by omega) (by omega) (by omega)]
    omega
theorem gp_isG (h : gp_cM m g d K Wt T G l S) (hg : g ≤ 7) (i : Int32) : (f_X4_isGoer m i = some (nI 0) ∧ (i < nI 0 ∨ nI g - nI 1 < i)) ∨ ∃ j, j < g ∧ i = nI j ∧ f_X4_isGoer m (nI j) = some (nI 1) := by
  have e := h.1.1
  rcases gp_ix i g (by omega) with q | ⟨j, hj, rfl⟩ | ⟨q1, q2⟩
  · have q : i < nI 0 := q
    exact Or.inl ⟨by simp [f_X4_isGoer, f_X4_in, gp_lit, q], Or.inl q⟩
  · refine Or.inr ⟨j, hj, rfl, ?_⟩
    have e2 : ¬ (nI g - nI 1 < nI j) := by rw [gp_sublt (by omega) (by omega) (by omega)]; omega
    simp (disch := omega) [f_X4_isGoer, f_X4_in, gp_lit, gp_lt, e, e2]
  · have q1' : ¬ i < nI 0 := q1
    have e2 : nI g - nI 1 < i := by
      obtain ⟨j, hj, rfl⟩ := nI_of q1
      rw [gp_lt (by omega) (by omega)] at q2
      rw [gp_sublt (by omega) (by omega) (by omega)]
      omega
    exact Or.inl ⟨by simp [f_X4_isGoer, f_X4_in, gp_lit, q1', e, e2], Or.inr e2⟩
/-- an index of a goer, for both -/
theorem gp_gc {m' : gn_M} (h : gp_cC m g d K Wt T G l S) (h' : gp_cM m' g d K Wt T G l S) (hg : g ≤ 7) (i : Int32) : (f_X0_numbers m i = some (nI 0) ∧ f_X4_isGoer m' i = some (nI 0)) ∨ ∃ j, j < g ∧ i = nI j ∧ f_X0_numbers m (nI j) = some (nI 1) ∧ f_X4_isGoer m' (nI j) = some (nI 1) := by
  rcases gp_numb h hg i with ⟨a1, a2⟩ | ⟨j, hj, rfl, a1⟩
  · rcases gp_isG h' hg i with ⟨b1, b2⟩ | ⟨j, hj, rfl, b1⟩
    · exact Or.inl ⟨a1, b1⟩
    · exfalso
      rcases a2 with a2 | a2
      · rw [gp_nn (by omega)] at a2; exact a2
      · rw [gp_sublt (by omega) (by omega) (by omega)] at a2; omega
  · rcases gp_isG h' hg (nI j) with ⟨b1, b2⟩ | ⟨j', hj', e, b1⟩
    · exfalso
      rcases b2 with b2 | b2
      · rw [gp_nn (by omega)] at b2; exact b2
      · rw [gp_sublt (by omega) (by omega) (by omega)] at b2; omega
    · rw [gp_eq (by omega) (by omega)] at e
      subst e
      exact Or.inr ⟨j, hj, rfl, a1, b1⟩
theorem gp_now (h : gp_cM m g d K Wt T G l S) (hd : d ≤ 40) {j : Nat} (hj : j < 10) : f_X4_now m (nI j) = some (m.1 48 (10 * d + j)) := by
  simp (disch := omega) [f_X4_now, gp_lit, h.1.2.1, pk_mul, nI_add, gp_rd]
theorem gp_naming (h : gp_cC m g d K Wt T G l S) (hg : g ≤ 7) {k i t : Nat} (hi : i < 7) (hk : m.1 k i = nI t) : f_X0_naming m (nI i) k = some (nI (gp_nm g K i t)) := by
  have e1 := h.2.2 1 (by decide)
  have e2 := h.2.2 2 (by decide)
  simp (disch := omega) only [f_X0_naming, gp_lit, gp_rd, hk, e1, e2, gp_sh, gp_sh2, gp_or, gp_and]
  unfold gp_nm
  have hz : (nI (((t ||| 2 ^ i) ||| gp_bs1 (fun i => K i == 1) g) &&& gp_bs1 (fun i => K i == 2) g) = nI 0) = (((t ||| 2 ^ i) ||| gp_kd g K 1) &&& gp_kd g K 2 = 0) := by
    have h1 : (((t ||| 2 ^ i) ||| gp_bs1 (fun i => K i == 1) g) &&& gp_bs1 (fun i => K i == 2) g) < 2147483648 := by
      have a1 : (((t ||| 2 ^ i) ||| gp_bs1 (fun i => K i == 1) g) &&& gp_bs1 (fun i => K i == 2) g) ≤ gp_bs1 (fun i => K i == 2) g := Nat.and_le_right
      have a2 := gp_bs1_lt (fun i => K i == 2) g
      have a3 := gp_p7 hg
      omega
    rw [gp_eq h1 (by omega)]
    rfl
  simp only [hz]
  split <;> rfl
theorem gp_ofK {n : Nat} (hn : 5000 ≤ n) (h : gp_cM m g d K Wt T G l S) (hg : g ≤ 7) (hK : ∀ i, i < g → K i < 6) {c : Nat} (hc : c < 6) : f_X4_ofKind n m (nI c) = some (nI (gp_kd g K c)) := by
  unfold f_X4_ofKind gp_kd
  have e := h.1.1
  refine gp_lp0 (Lf := fun f i (acc : Int32) => L_X4_ofKind_4 n m (nI c) (fun e => some e) f acc (nI i)) (N := g) (A := fun i => nI (gp_bs1 (fun i => K i == c) i)) (fun f i hi => ?_) (fun f => ?_) (by omega)
  · show L_X4_ofKind_4 n m (nI c) _ (f + 1) _ (nI i) = _
    rw [L_X4_ofKind_4]
    have ek := (h.2 i hi).1
    have hk := hK i hi
    simp (disch := omega) only [gp_lit, e, gp_lt, hi, if_true, gp_rd, ek, gp_eq, gp_sh, nI_add, gp_or, gp_bs1]
    by_cases q : K i = c
    · simp [q]
    · simp [q]
  · show L_X4_ofKind_4 n m (nI c) _ (f + 1) _ (nI g) = _
    rw [L_X4_ofKind_4]
    simp (disch := omega) [e, gp_lt]
theorem gp_namesBy {n : Nat} (hn : 5000 ≤ n) (h : gp_cM m g d K Wt T G l S) (hg : g ≤ 7) (hK : ∀ i, i < g → K i < 6) {i t : Nat} (hi : i < g) : f_X4_namesBy n m (nI i) (nI t) = some (nI (gp_nm g K i t)) := by
  have k1 := gp_ofK hn h hg hK (c := 1) (by decide)
  have k2 := gp_ofK hn h hg hK (c := 2) (by decide)
  have b2 : gp_kd g K 2 < 2147483648 := by
    have a2 := gp_kd_lt (g := g) (K := K) (c := 2)
    have a3 := gp_p7 hg
    omega
  have hb : t &&& gp_kd g K 2 < 2147483648 := by
    have : t &&& gp_kd g K 2 ≤ gp_kd g K 2 := Nat.and_le_right
    omega
  simp (disch := omega) only [f_X4_namesBy, gp_lit, k1, k2, gp_bs, gp_has, gp_ite1, gp_sh, gp_sh2, gp_or, gp_and, gp_eq hb, Nat.or_zero]
  unfold gp_nm
  by_cases q1 : (gp_kd g K 2).testBit i = false
  · by_cases q2 : t &&& gp_kd g K 2 = 0
    · rw [if_pos (gp_nm_iff.mpr ⟨q1, q2⟩)]
      simp [q1, q2]
    · rw [if_neg (fun z => q2 (gp_nm_iff.mp z).2)]
      simp (disch := omega) [q1, q2, gp_eq]
  · rw [if_neg (fun z => q1 (gp_nm_iff.mp z).1)]
    simp (disch := omega) [q1, gp_eq]
theorem gp_toldM (h : gp_cM m g d K Wt T G l S) (hg : g ≤ 7) (hd : d ≤ 40) {i : Nat} (hi : i < g) : f_X4_toldOf m (nI i) = some (nI (T i)) := by
  have e := gp_now h hd (j := i) (by omega)
  simp only [f_X4_toldOf, gp_lit, nI_add, Nat.zero_add, e, gp_bs, (h.2 i hi).2.2]
theorem gp_namesOf {n : Nat} (hn : 5000 ≤ n) (h : gp_cM m g d K Wt T G l S) (o : gp_ok g d K Wt T G l S) {i : Nat} (hi : i < g) : f_X4_namesOf n m (nI i) = some (nI (gp_nm g K i (T i))) := by
  have hg : g ≤ 7 := by rcases o.1 with q | q <;> omega
  simp only [f_X4_namesOf, gp_toldM h hg o.2.1 hi, gp_bs, gp_namesBy hn h hg (fun i hi => (o.2.2.1 i hi).1) hi]
def gp_op (g : Nat) (K T : Nat → Nat) (G l i : Nat) : Bool := !G.testBit i && (decide (l = 7) || (gp_nm g K i (T i)).testBit l)
theorem gp_lI7 {l : Nat} (h : l < 7) : gp_lI l = nI l := if_pos h
theorem gp_lI9 : gp_lI 7 = -nI 9 := by decide
theorem gp_lIne {l : Nat} (h : l < 7) : (nI l = -nI 9) = False := by
  apply eq_false
  intro q
  rcases (show l = 0 ∨ l = 1 ∨ l = 2 ∨ l = 3 ∨ l = 4 ∨ l = 5 ∨ l = 6 by omega) with rfl | rfl | rfl | rfl | rfl | rfl | rfl <;> exact absurd q (by decide)
theorem gp_waits (h : gp_cC m g d K Wt T G l S) (o : gp_ok g d K Wt T G l S) {i : Nat} (hi : i < 31) : f_X0_waits m (nI i) = some (if G.testBit i then nI 0 else nI 1) := by
  have hg : g ≤ 7 := by rcases o.1 with q | q <;> omega
  have a3 := gp_p7 hg
  have := o.2.2.2.1
  simp (disch := omega) only [f_X0_waits, gp_lit, h.1.2.2.1, gp_isIn, gp_bs, gp_ite1]
  cases G.testBit i <;> simp
theorem gp_thr (h : gp_cM m g d K Wt T G l S) (o : gp_ok g d K Wt T G l S) {i : Nat} (hi : i < 31) : f_X4_isThrough m (nI i) = some (if G.testBit i then nI 1 else nI 0) := by
  have hg : g ≤ 7 := by rcases o.1 with q | q <;> omega
  have a3 := gp_p7 hg
  have := o.2.2.2.1
  have e := gp_now h o.2.1 (j := 7) (by decide)
  simp (disch := omega) only [f_X4_isThrough, gp_lit, e, h.1.2.2.1, gp_bs, gp_has]
theorem gp_opC (h : gp_cC m g d K Wt T G l S) (o : gp_ok g d K Wt T G l S) {i : Nat} (hi : i < g) : f_X0_opensTo m (nI i) = some (if gp_op g K T G l i then nI 1 else nI 0) := by
  have hg : g ≤ 7 := by rcases o.1 with q | q <;> omega
  have a3 := gp_p7 hg
  have hn1 := gp_nm_lt (g := g) (K := K) (i := i) (t := T i) hi (o.2.2.1 i hi).2.2.1
  have e1 := gp_waits h o (i := i) (by omega)
  have e2 := gp_naming h hg (k := 30) (i := i) (by omega) (h.2.1 i hi).2.2
  have e3 := h.1.2.2.2.1
  unfold gp_op
  by_cases q : G.testBit i = true
  · simp (disch := omega) [f_X0_opensTo, gp_lit, e1, q]
  · rcases o.2.2.2.2.2 with hl | hl
    · have e4 := gp_isIn (s := gp_nm g K i (T i)) (i := l) (by omega) (by omega)
      rw [gp_lI7 (by omega)] at e3
      cases hb : (gp_nm g K i (T i)).testBit l <;> simp (disch := omega) [f_X0_opensTo, gp_lit, e1, q, gp_eq, e3, gp_lIne, e2, e4, hb, show ¬ l = 7 by omega]
    · subst hl
      rw [gp_lI9] at e3
      simp (disch := omega) [f_X0_opensTo, gp_lit, e1, q, gp_eq, e3]
theorem gp_opM {n : Nat} (hn : 5000 ≤ n) (h : gp_cM m g d K Wt T G l S) (o : gp_ok g d K Wt T G l S) {i : Nat} (hi : i < g) : f_X4_isOpen n m (nI i) = some (if gp_op g K T G l i then nI 1 else nI 0) := by
  have hg : g ≤ 7 := by rcases o.1 with q | q <;> omega
  have a3 := gp_p7 hg
  have hn1 := gp_nm_lt (g := g) (K := K) (i := i) (t := T i) hi (o.2.2.1 i hi).2.2.1
  have e1 := gp_thr h o (i := i) (by omega)
  have e2 := gp_namesOf hn h o hi
  have e3 := gp_now h o.2.1 (j := 8) (by decide)
  rw [h.1.2.2.2.1] at e3
  unfold gp_op
  by_cases q : G.testBit i = true
  · simp (disch := omega) [f_X4_isOpen, gp_lit, e1, q, gp_eq]
  · rcases o.2.2.2.2.2 with hl | hl
    · have e4 := gp_has (s := gp_nm g K i (T i)) (i := l) (by omega) (by omega)
      rw [gp_lI7 (by omega)] at e3
      cases hb : (gp_nm g K i (T i)).testBit l <;> simp (disch := omega) [f_X4_isOpen, gp_lit, e1, q, gp_eq, e3, gp_lIne, e2, e4, hb, show ¬ l = 7 by omega]
    · subst hl
      rw [gp_lI9] at e3
      simp (disch := omega) [f_X4_isOpen, gp_lit, e1, q, gp_eq, e3]
end GPC
