/-! PURE: meetings: whether all can come, meetings aside -/
/-- what all were told of when two have met -/
def gp_mt (K T : Nat → Nat) (i j x : Nat) : Nat := if x = j then T j ||| gp_df (gp_tl (K i) i (T i)) (2 ^ j) else if x = i then T i ||| gp_df (gp_tl (K j) j (T j)) (2 ^ i) else T x
theorem gp_mt_lt {g : Nat} {K T : Nat → Nat} {i j : Nat} (hi : i < g) (hj : j < g) (h : ∀ x, x < g → T x < 2 ^ g) : ∀ x, x < g → gp_mt K T i j x < 2 ^ g := by
  intro x hx
  unfold gp_mt
  split
  · exact gp_or_lt (h j hj) (gp_df_lt (gp_tl_lt (h i hi) hi))
  · split
    · exact gp_or_lt (h i hi) (gp_df_lt (gp_tl_lt (h j hj) hj))
    · exact h x hx
def gp_ca (g : Nat) (K : Nat → Nat) (G l : Nat) (T : Nat → Nat) : Bool := decide (0 < gp_N g (gp_A (gp_lf g G) l (fun j => gp_nm g K j (T j))) (gp_lf g G) 7)
/-- who comes behind another -/
def gp_ba (L : Nat) (af : Nat → Nat) : Nat → Nat
  | 0 => 0
  | i + 1 => if L.testBit i = true then gp_ba L af i ||| gp_df (af i) (2 ^ i) else gp_ba L af i
theorem gp_ba_tb {L j : Nat} {af : Nat → Nat} : ∀ k, (gp_ba L af k).testBit j = true ↔ ∃ i, i < k ∧ L.testBit i = true ∧ (af i).testBit j = true ∧ i ≠ j
  | 0 => by
    rw [gp_ba, Nat.zero_testBit]
    exact ⟨fun z => (by cases z), fun ⟨t, h, _⟩ => (by omega)⟩
  | k + 1 => by
    rw [gp_ba]
    have ih := gp_ba_tb (L := L) (j := j) (af := af) k
    by_cases c : L.testBit k = true
    · rw [if_pos c, Nat.testBit_or, Bool.or_eq_true, ih, gp_rm_tb, Bool.and_eq_true]
      constructor
      · rintro (⟨i, h1, h2⟩ | ⟨h1, h2⟩)
        · exact ⟨i, by omega, h2⟩
        · exact ⟨k, by omega, c, h1, by simpa using h2⟩
      · rintro ⟨i, h1, h2, h3, h4⟩
        by_cases q : i = k
        · subst q; exact Or.inr ⟨h3, by simpa using h4⟩
        · exact Or.inl ⟨i, by omega, h2, h3, h4⟩
    · rw [if_neg c, ih]
      constructor
      · rintro ⟨i, h1, h2⟩
        exact ⟨i, by omega, h2⟩
      · rintro ⟨i, h1, h2⟩
        by_cases q : i = k
        · subst q; exact absurd h2.1 c
        · exact ⟨i, by omega, h2⟩
theorem gp_po1 : ∀ f, f < 7 → gp_po (2 ^ f) = 1 := by decide
section GPME
variable {m m' : gn_M} {g d : Nat} {K Wt T : Nat → Nat} {G l S : Nat} {A : Nat → Nat → Bool} {L O : Nat} {af : Nat → Nat}
theorem gp_ba_lt (a : gp_rA g L O af A) : ∀ k, k ≤ g → gp_ba L af k < 2 ^ g
  | 0, _ => Nat.two_pow_pos g
  | k + 1, hk => by
    rw [gp_ba]
    split
    · exact gp_or_lt (gp_ba_lt a k (by omega)) (gp_df_lt (a.2.2.2.1 k (by omega)))
    · exact gp_ba_lt a k (by omega)
theorem gp_may (a : gp_rA g L O af A) (h : 0 < gp_N g A L 7) : gp_df (gp_df L (gp_ba L af g)) O = 0 ∧ gp_po (gp_df L (gp_ba L af g)) ≤ 1 := by
  have hg := a.1
  have h7 := gp_p7 hg
  by_cases h0 : L = 0
  · have : gp_df L (gp_ba L af g) = 0 := by
      have := gp_df_le L (gp_ba L af g)
      omega
    rw [this]
    exact ⟨gp_df0.mpr (fun j hj => by rw [Nat.zero_testBit] at hj; cases hj), by decide⟩
  · obtain ⟨f, f1, f2, f3, f4⟩ := (gp_N_pos h0).mp h
    have hm : ∀ j, (gp_df L (gp_ba L af g)).testBit j = true → j = f := by
      intro j hj
      rw [gp_df_tb, Bool.and_eq_true] at hj
      obtain ⟨j1, j2⟩ := hj
      have hjg := gp_tb_lt a.2.1 j1
      apply Classical.byContradiction
      intro hne
      have hba : (gp_ba L af g).testBit j = true := by
        rw [gp_ba_tb]
        rcases gp_N_ahead _ f j f4 (by rw [gp_rm_tb, j1]; simp; omega) with q | ⟨p, p1, p2, p3, p4⟩
        · exact ⟨f, f1, f2, by rw [a.2.2.2.2.1 f j f1 hjg j1]; exact q, by omega⟩
        · rw [gp_rm_tb, Bool.and_eq_true] at p2
          exact ⟨p, p1, p2.1, by rw [a.2.2.2.2.1 p j p1 hjg j1]; exact p4, p3⟩
      rw [hba] at j2
      cases j2
    refine ⟨gp_df0.mpr (fun j hj => ?_), ?_⟩
    · rw [hm j hj, a.2.2.2.2.2.1 f f1]
      exact f3
    · have := gp_sb_po (a := gp_df L (gp_ba L af g)) (b := 2 ^ f) (by have := gp_2i (i := f) (by omega); omega) (fun j hj => by rw [hm j hj, Nat.testBit_two_pow_self])
      rw [gp_po1 f (by omega)] at this
      exact this
theorem gp_maL {n : Nat} (hn : 5000 ≤ n) (h : gp_rC m g L O af) (a : gp_rA g L O af A) : ∃ b : Bool, f_X1_mayAllCome n m = some (if b then nI 1 else nI 0) ∧ (0 < gp_N g A L 7 → b = true) := by
  have hg := a.1
  have h7 := gp_p7 hg
  have hL := a.2.1
  have e := h.1
  have e6 := h.2.1
  have e7 := h.2.2.1
  obtain ⟨q, hq⟩ : ∃ q, q = gp_df L (gp_ba L af g) := ⟨_, rfl⟩
  have hql : q ≤ L := by rw [hq]; exact gp_df_le _ _
  have hql2 := gp_df_le q O
  have hbc := gp_bc q (by omega)
  have hpo := gp_po_le q
  refine ⟨decide (gp_df q O = 0) && !decide (1 < gp_po q), ?_, fun hN => ?_⟩
  · unfold f_X1_mayAllCome
    refine gp_lp0 (Lf := fun f i (acc : Int32) => L_X1_mayAllCome_4 n m (fun (e3 : Int32) => (if (((m.1 8 6) &&& (e3 ^^^ (-1 : Int32))) &&& ((m.1 8 7) ^^^ (-1 : Int32))) = 0 then (f_J6_bitCount_0f7a4 ((m.1 8 6) &&& (e3 ^^^ (-1 : Int32)))).bind (fun x4 => (if (1 : Int32) < x4 then some (0 : Int32) else some (1 : Int32))) else some (0 : Int32))) f acc (nI i)) (N := g) (A := fun i => nI (gp_ba L af i)) (fun f i hi => ?_) (fun f => ?_) (by omega)
    · show L_X1_mayAllCome_4 n m _ (f + 1) _ (nI i) = _
      rw [L_X1_mayAllCome_4]
      by_cases hb : L.testBit i = true
      · simp (disch := omega) only [e, e6, gp_lt, hi, if_true, gp_isIn, hb, gp_bs, gp_lit, gp_eq, Nat.one_ne_zero, if_false, gp_rd, h.2.2.2 i hi, gp_sh, gp_nt, gp_or, nI_add, gp_ba]
      · simp (disch := omega) only [e, e6, gp_lt, hi, if_true, gp_isIn, hb, gp_bs, gp_lit, if_false, nI_add, gp_ba, Bool.false_eq_true]
    · show L_X1_mayAllCome_4 n m _ (f + 1) _ (nI g) = _
      rw [L_X1_mayAllCome_4]
      by_cases c1 : gp_df q O = 0
      · by_cases c2 : 1 < gp_po q
        · simp (disch := omega) only [e, e6, e7, gp_lt, Nat.lt_irrefl, if_false, gp_lit, gp_nt, ← hq, gp_eq, c1, if_true, hbc, gp_bs, c2, decide_true, Bool.not_true, Bool.and_false, Bool.false_eq_true]
        · simp (disch := omega) only [e, e6, e7, gp_lt, Nat.lt_irrefl, if_false, gp_lit, gp_nt, ← hq, gp_eq, c1, if_true, hbc, gp_bs, c2, decide_true, decide_false, Bool.not_false, Bool.and_true]
      · simp (disch := omega) only [e, e6, e7, gp_lt, Nat.lt_irrefl, if_false, gp_lit, gp_nt, ← hq, gp_eq, c1, decide_false, Bool.false_and, Bool.false_eq_true]
  · obtain ⟨z1, z2⟩ := gp_may a hN
    rw [← hq] at z1 z2
    simp [z1]
    omega
/-- none but the road and one more cell are others -/
def gp_fm2 (c2 : Nat) (m m' : gn_M) : Prop := (∀ c, c ≠ 8 → c ≠ 33 → c ≠ 34 → c ≠ c2 → m'.1 c = m.1 c) ∧ m'.2 = m.2
theorem gp_acL {n : Nat} (hn : 5000 ≤ n) (hC : gp_cC m g d K Wt T G l S) (o : gp_ok g d K Wt T G l S) {c : Nat} (hc : c ≠ 33) (hc8 : c ≠ 8) {T' : Nat → Nat} (hT : ∀ j, j < g → m.1 c j = nI (T' j) ∧ T' j < 2 ^ g) : ∃ m', f_X3_allCome n m c = some (if gp_ca g K G l T' then nI 1 else nI 0, m') ∧ gp_fm2 34 m m' := by
  obtain ⟨m1, a1, a2, a3, a4⟩ := gp_lkL hn hC o hc hc8 hT
  have hA := gp_rA_is (nm := fun j => gp_nm g K j (T' j)) o.g7 (gp_lf_lt g G) o.2.2.2.2.2
  obtain ⟨b, b1, b2⟩ := gp_maL hn a4 hA
  unfold f_X3_allCome gp_ca
  rw [a1, gp_bs, b1, gp_bs]
  cases b
  · refine ⟨m1, ?_, fun k k1 k2 k3 k4 => a2 k k1 k2, a3⟩
    have hz : ¬ 0 < gp_N g (gp_A (gp_lf g G) l (fun j => gp_nm g K j (T' j))) (gp_lf g G) 7 := fun z => by cases b2 z
    simp only [hz, decide_false, Bool.false_eq_true, if_false]
    rfl
  · obtain ⟨m2, c1, c2, c3⟩ := gp_chL hn a4 hA
    have hr2 := a4.fr (c2.1 8 (by omega)) (c2.1 33 (by omega))
    have hct := gp_ctL hr2 hA c3 (gp_lf_lt g G)
    refine ⟨m2, ?_, fun k k1 k2 k3 k4 => by rw [c2.1 k k3]; exact a2 k k1 k2, by rw [c2.2, a3]⟩
    rw [if_pos rfl, if_neg (by decide), c1, gp_bs, hr2.2.1, hct, gp_bs]
    simp only [decide_eq_true_eq]
theorem gp_cnL (hC : gp_cC m g d K Wt T G l S) (o : gp_ok g d K Wt T G l S) {i j : Nat} (hi : i < g) (hj : j < g) (hij : i < j) : f_X0_canMeet m (nI i) (nI j) = some (if !G.testBit i && !G.testBit j then nI 1 else nI 0) := by
  have hg := o.g7
  have w1 := gp_waits hC o (i := i) (by omega)
  have w2 := gp_waits hC o (i := j) (by omega)
  unfold f_X0_canMeet
  cases c1 : G.testBit i <;> cases c2 : G.testBit j <;> simp (disch := omega) [gp_eq, show ¬ i = j by omega, w1, w2, c1, c2, gp_lit]
theorem gp_cp7 {c1 c2 x : Nat} (hx : x < 7) : (gn_cp m c1 0 c2 0 7).1 c2 x = m.1 c1 x := by
  rw [gn_cp_s]
  unfold va_cpy
  simp [hx]
theorem gp_mtC (hC : gp_cC m g d K Wt T G l S) (o : gp_ok g d K Wt T G l S) {i j : Nat} (hi : i < g) (hj : j < g) (hij : i ≠ j) {c1 c2 : Nat} {T' : Nat → Nat} (hT : ∀ j, j < g → m.1 c1 j = nI (T' j)) : ∃ m', f_X0_meetAside m (nI i) (nI j) c1 c2 = some m' ∧ gp_f1 c2 m m' ∧ ∀ x, x < g → m'.1 c2 x = nI (gp_mt K T' i j x) := by
  have hg := o.g7
  obtain ⟨m7, hm7⟩ : ∃ m7, m7 = gn_cp m c1 0 c2 0 7 := ⟨_, rfl⟩
  have h7 : ∀ x, x < g → m7.1 c2 x = nI (T' x) := fun x hx => by rw [hm7, gp_cp7 (by omega)]; exact hT x hx
  have f7 : gp_f1 c2 m m7 := by rw [hm7]; exact ⟨fun k hk => gn_cp_1 hk, rfl⟩
  obtain ⟨m9, hm9⟩ : ∃ m9, m9 = gn_up m7 c2 i (nI (T' i ||| gp_df (gp_tl (K j) j (T' j)) (2 ^ i))) := ⟨_, rfl⟩
  have h9 : m9.1 c2 j = nI (T' j) := by rw [hm9, gp_u, if_neg (by omega)]; exact h7 j hj
  refine ⟨gn_up m9 c2 j (nI (T' j ||| gp_df (gp_tl (K i) i (T' i)) (2 ^ j))), ?_, ?_, fun x hx => ?_⟩
  · simp (disch := omega) only [f_X0_meetAside, gp_lit, gp_rd, (hC.2.1 i hi).1, (hC.2.1 j hj).1, hT i hi, hT j hj, gp_tA (o.2.2.1 i hi).1, gp_tA (o.2.2.1 j hj).1, Option.bind_some, gp_ac7, ← hm7, h7 i hi, gp_sh, gp_nt, gp_or, gp_wr, ← hm9, h9]
  · rw [hm9]
    exact f7.up.up
  · rw [gp_u, gp_mt]
    by_cases q : x = j
    · rw [if_pos ⟨rfl, q⟩, if_pos q]
    · rw [if_neg (by omega), if_neg q, hm9, gp_u]
      by_cases q2 : x = i
      · rw [if_pos ⟨rfl, q2⟩, if_pos q2]
      · rw [if_neg (by omega), if_neg q2]
        exact h7 x hx
end GPME
