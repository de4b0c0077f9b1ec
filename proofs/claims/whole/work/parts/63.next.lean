/-! PURE: most: the row that both write -/
def gp_ln (P : Nat → Bool) : Nat → Nat → Nat
  | 0, _ => 0
  | k + 1, i => if P i then i else gp_ln P k (i + 1)
theorem gp_ln_ok {P : Nat → Bool} : ∀ k i, (∃ j, i ≤ j ∧ j < i + k ∧ P j = true) → P (gp_ln P k i) = true ∧ gp_ln P k i < i + k ∧ gp_fi P k i = nI (gp_ln P k i)
  | 0, i, ⟨j, h1, h2, _⟩ => by omega
  | k + 1, i, ⟨j, h1, h2, h3⟩ => by
    rw [gp_ln, gp_fi]
    by_cases hp : P i = true
    · rw [if_pos hp, if_pos hp]
      exact ⟨hp, by omega, rfl⟩
    · rw [if_neg hp, if_neg hp]
      have hne : j ≠ i := fun e => hp (e ▸ h3)
      obtain ⟨a, b, c⟩ := gp_ln_ok (P := P) k (i + 1) ⟨j, by omega, by omega, h3⟩
      exact ⟨a, by omega, c⟩
theorem gp_fi_ext {P : Nat → Bool} {k' : Nat} : ∀ k i, (∃ j, i ≤ j ∧ j < i + k ∧ P j = true) → gp_fi P (k + k') i = gp_fi P k i
  | 0, i, ⟨j, h1, h2, _⟩ => by omega
  | k + 1, i, ⟨j, h1, h2, h3⟩ => by
    rw [show k + 1 + k' = (k + k') + 1 by omega, gp_fi, gp_fi]
    by_cases hp : P i = true
    · rw [if_pos hp, if_pos hp]
    · rw [if_neg hp, if_neg hp]
      have hne : j ≠ i := fun e => hp (e ▸ h3)
      exact gp_fi_ext k (i + 1) ⟨j, by omega, by omega, h3⟩
theorem gp_tz : ∀ X, X < 128 → X ≠ 0 → f_J6_numberOfTrailingZeros_0f7a4 (nI X) = some (gp_fi (fun j => X.testBit j) 7 0) := by decide +kernel
section GPQQ
variable {m m' : gn_M} {g d : Nat} {K Wt T : Nat → Nat} {G l S : Nat} {nm : Nat → Nat} {A : Nat → Nat → Bool} {L O : Nat} {af : Nat → Nat}
/-- who can go next in the longest row -/
def gp_cq (g : Nat) (A : Nat → Nat → Bool) (s p j : Nat) : Bool := s.testBit j && A p j && decide (gp_E g A (gp_df s (2 ^ j)) j + 1 = gp_E g A s p)
def gp_ch (g : Nat) (A : Nat → Nat → Bool) (x : Nat × Nat) : Nat := gp_ln (gp_cq g A x.1 x.2) g 0
def gp_sq (g : Nat) (A : Nat → Nat → Bool) (L : Nat) : Nat → Nat × Nat
  | 0 => (L, 7)
  | k + 1 => (gp_df (gp_sq g A L k).1 (2 ^ gp_ch g A (gp_sq g A L k)), gp_ch g A (gp_sq g A L k))
theorem gp_cq_ex {s p : Nat} (h : 0 < gp_E g A s p) : ∃ j, j < g ∧ gp_cq g A s p j = true := by
  have e := gp_ES (g := g) (A := A) (s := s) (i := p)
  rcases gp_mx_is (f := fun j => if s.testBit j = true then (if A p j then 1 + gp_E g A (gp_df s (2 ^ j)) j else 0) else 0) (n := g) with q | ⟨j, j1, q⟩
  · omega
  · refine ⟨j, j1, ?_⟩
    rw [← e] at q
    unfold gp_cq
    by_cases hb : s.testBit j = true
    · by_cases ha : A p j = true
      · simp only [hb, ha, if_true] at q
        rw [hb, ha]
        simp
        omega
      · simp only [hb, ha, if_true] at q
        simp at q
        omega
    · simp only [hb] at q
      simp at q
      omega
theorem gp_ch_ok {s p : Nat} (h : 0 < gp_E g A s p) : gp_cq g A s p (gp_ch g A (s, p)) = true ∧ gp_ch g A (s, p) < g ∧ gp_fi (gp_cq g A s p) g 0 = nI (gp_ch g A (s, p)) := by
  obtain ⟨j, h1, h2⟩ := gp_cq_ex h
  obtain ⟨a, b, c⟩ := gp_ln_ok (P := gp_cq g A s p) g 0 ⟨j, by omega, by omega, h2⟩
  exact ⟨a, by unfold gp_ch; dsimp only; omega, c⟩
theorem gp_cq_d {s p j : Nat} (h : gp_cq g A s p j = true) : s.testBit j = true ∧ A p j = true ∧ gp_E g A (gp_df s (2 ^ j)) j + 1 = gp_E g A s p := by
  unfold gp_cq at h
  revert h
  cases s.testBit j <;> cases A p j <;> simp
theorem gp_sq_ok : ∀ k, k ≤ gp_E g A L 7 → gp_E g A (gp_sq g A L k).1 (gp_sq g A L k).2 + k = gp_E g A L 7 ∧ gp_sb (gp_sq g A L k).1 L ∧ ((gp_sq g A L k).2 = 7 ∨ (gp_sq g A L k).2 < g)
  | 0, _ => ⟨rfl, fun _ z => z, Or.inl rfl⟩
  | k + 1, h => by
    obtain ⟨a, b, c⟩ := gp_sq_ok k (by omega)
    obtain ⟨x, hx⟩ : ∃ x, x = gp_sq g A L k := ⟨_, rfl⟩
    obtain ⟨s, p⟩ := x
    rw [← hx] at a b c
    dsimp only at a b c
    obtain ⟨d1, d2, d3⟩ := gp_ch_ok (g := g) (A := A) (s := s) (p := p) (by omega)
    obtain ⟨e1, e2, e3⟩ := gp_cq_d d1
    rw [gp_sq, ← hx]
    exact ⟨by dsimp only; omega, gp_sb_rm b, Or.inr d2⟩
/-- the firsts of rows of so many -/
def gp_fo (g : Nat) (A : Nat → Nat → Bool) (s e : Nat) : Nat → Nat
  | 0 => 0
  | t + 1 => if t ≠ 0 ∧ gp_df t s = 0 ∧ gp_po t = e then gp_fo g A s e t ||| gp_st g A t else gp_fo g A s e t
theorem gp_fo_tb {s e j : Nat} : ∀ i, (gp_fo g A s e i).testBit j = true ↔ ∃ t, t < i ∧ t ≠ 0 ∧ gp_df t s = 0 ∧ gp_po t = e ∧ (gp_st g A t).testBit j = true
  | 0 => by
    rw [gp_fo, Nat.zero_testBit]
    exact ⟨fun z => (by cases z), fun ⟨t, h, _⟩ => (by omega)⟩
  | i + 1 => by
    rw [gp_fo]
    have ih := gp_fo_tb (s := s) (e := e) (j := j) i
    by_cases c : i ≠ 0 ∧ gp_df i s = 0 ∧ gp_po i = e
    · rw [if_pos c, Nat.testBit_or, Bool.or_eq_true, ih]
      constructor
      · rintro (⟨t, h1, h2⟩ | h)
        · exact ⟨t, by omega, h2⟩
        · exact ⟨i, by omega, c.1, c.2.1, c.2.2, h⟩
      · rintro ⟨t, h1, h2⟩
        by_cases q : t = i
        · subst q; exact Or.inr h2.2.2.2
        · exact Or.inl ⟨t, by omega, h2⟩
    · rw [if_neg c, ih]
      constructor
      · rintro ⟨t, h1, h2⟩
        exact ⟨t, by omega, h2⟩
      · rintro ⟨t, h1, h2⟩
        by_cases q : t = i
        · subst q; exact absurd ⟨h2.1, h2.2.1, h2.2.2.1⟩ c
        · exact ⟨t, by omega, h2⟩
theorem gp_fo_is (hg : g ≤ 7) {s p B : Nat} (hs : s < 2 ^ g) (h : 0 < gp_E g A s p) (hB : ∀ j, j < g → s.testBit j = true → B.testBit j = A p j) : gp_fo g A s (gp_E g A s p) (s + 1) &&& B = gp_bs1 (gp_cq g A s p) g := by
  have h7 := gp_p7 hg
  apply Nat.eq_of_testBit_eq
  intro j
  rw [Nat.testBit_and, gp_bs1_tb]
  apply Bool.eq_iff_iff.mpr
  rw [Bool.and_eq_true, gp_fo_tb, Bool.and_eq_true, decide_eq_true_eq]
  constructor
  · rintro ⟨⟨t, t1, t2, t3, t4, t5⟩, hBj⟩
    rw [gp_st, gp_bs1_tb, Bool.and_eq_true, Bool.and_eq_true, decide_eq_true_eq, decide_eq_true_eq] at t5
    obtain ⟨hj, htj, hN⟩ := t5
    have hts := gp_df0.mp t3
    have hsj := hts j htj
    rw [hB j hj hsj] at hBj
    have hpo := gp_po_rm t (by omega) j (by omega) htj
    have e1 := (gp_Elem (A := A) hg (gp_df s (2 ^ j)) j (gp_po (gp_df t (2 ^ j))) (gp_df_lt hs)).mp ⟨gp_df t (2 ^ j), fun x hx => by
      rw [gp_rm_tb] at hx ⊢
      have := hts x
      revert hx this
      cases t.testBit x <;> cases s.testBit x <;> cases decide (j = x) <;> simp, rfl, hN⟩
    have e2 : 1 + gp_E g A (gp_df s (2 ^ j)) j ≤ gp_E g A s p := by
      rw [gp_ES (s := s)]
      have q := gp_mx_ge (f := fun j => if s.testBit j = true then (if A p j then 1 + gp_E g A (gp_df s (2 ^ j)) j else 0) else 0) hj
      simp only [hsj, hBj, if_true] at q
      exact q
    refine ⟨hj, ?_⟩
    unfold gp_cq
    rw [hsj, hBj]
    simp
    omega
  · rintro ⟨hj, hc⟩
    obtain ⟨c1, c2, c3⟩ := gp_cq_d hc
    obtain ⟨t, t1, t2, t3⟩ := (gp_Elem (A := A) hg (gp_df s (2 ^ j)) j (gp_E g A (gp_df s (2 ^ j)) j) (gp_df_lt hs)).mpr (Nat.le_refl _)
    have htj : t.testBit j = false := by
      cases q : t.testBit j
      · rfl
      · have := t1 j q
        rw [gp_rm_tb] at this
        simp at this
    obtain ⟨b1, b2⟩ := gp_addb htj
    have hsb : gp_sb (t ||| 2 ^ j) s := by
      intro x hx
      rw [Nat.testBit_or, Nat.testBit_two_pow] at hx
      by_cases e : j = x
      · subst e; exact c1
      · have := t1 x (by simpa [e] using hx)
        rw [gp_rm_tb] at this
        revert this
        cases s.testBit x <;> simp
    have hle := gp_sb_le hsb
    have hpo := gp_po_rm (t ||| 2 ^ j) (by omega) j (by omega) b1
    rw [b2] at hpo
    refine ⟨⟨t ||| 2 ^ j, by omega, gp_bit_ne b1, gp_df0.mpr hsb, by omega, ?_⟩, by rw [hB j hj c1]; exact c2⟩
    rw [gp_st, gp_bs1_tb, b1, b2]
    simp [hj, t3]
theorem gp_foL {n : Nat} (hn : 5000 ≤ n) (h34 : gp_s34 m g L A) (hg : g ≤ 7) (hL : L < 2 ^ g) {s e : Nat} (hs : gp_sb s L) (he : e ≤ 8) : f_X1_firstsOf n m (nI s) (nI e) = some (nI (gp_fo g A s e (s + 1))) := by
  have h7 := gp_p7 hg
  have hsL := gp_sb_le hs
  unfold f_X1_firstsOf
  have e1 : gp_fo g A s e 1 = 0 := by
    show (if (0 ≠ 0 ∧ gp_df 0 s = 0 ∧ gp_po 0 = e) then gp_fo g A s e 0 ||| gp_st g A 0 else gp_fo g A s e 0) = 0
    rw [if_neg (fun z => z.1 rfl)]
    rfl
  have key := gp_lp0 (Lf := fun f t (acc : Int32) => L_X1_firstsOf_5 n m (nI s) (nI e) (fun e => some e) f acc (nI (t + 1))) (N := s) (A := fun t => nI (gp_fo g A s e (t + 1))) (r := some (nI (gp_fo g A s e (s + 1)))) (fun f t' ht' => ?_) (fun f => ?_) (f := n) (by omega)
  · rw [Nat.zero_add, e1] at key
    exact key
  · show L_X1_firstsOf_5 n m (nI s) (nI e) _ (f + 1) (nI (gp_fo g A s e (t' + 1))) (nI (t' + 1)) = L_X1_firstsOf_5 n m (nI s) (nI e) _ f (nI (gp_fo g A s e (t' + 1 + 1))) (nI (t' + 1 + 1))
    obtain ⟨t, ht⟩ : ∃ t, t = t' + 1 := ⟨_, rfl⟩
    rw [← ht, L_X1_firstsOf_5]
    have t0 : ¬ t = 0 := by omega
    have hbc := gp_bc t (by omega)
    have hpo := gp_po_le t
    have hdl := gp_df_le t s
    by_cases c1 : gp_df t s = 0
    · by_cases c2 : gp_po t = e
      · have e34 := h34 t t0 (fun j hj => hs j (gp_df0.mp c1 j hj))
        simp (disch := omega) only [gp_lt, show ¬ s < t by omega, if_false, gp_lit, gp_nt, gp_eq, c1, if_true, hbc, gp_bs, c2, gp_rd, e34, gp_or, nI_add, gp_fo, t0, ne_eq, not_false_eq_true, and_self]
      · simp (disch := omega) only [gp_lt, show ¬ s < t by omega, if_false, gp_lit, gp_nt, gp_eq, c1, if_true, hbc, gp_bs, c2, nI_add, gp_fo, and_false]
    · simp (disch := omega) only [gp_lt, show ¬ s < t by omega, if_false, gp_lit, gp_nt, gp_eq, c1, nI_add, gp_fo, and_false, false_and]
  · show L_X1_firstsOf_5 n m (nI s) (nI e) _ (f + 1) _ (nI (s + 1)) = _
    rw [L_X1_firstsOf_5]
    simp (disch := omega) only [gp_lt, Nat.lt_succ_self, if_true]
end GPQQ
