/-! PURE: rows that go through: in how many orders, how long -/
theorem gp_rm_tb (s i j : Nat) : (gp_df s (2 ^ i)).testBit j = (s.testBit j && !decide (i = j)) := by
  rw [gp_df_tb, Nat.testBit_two_pow]
theorem gp_rm_le (s i : Nat) : gp_df s (2 ^ i) ≤ s := by
  apply Nat.le_of_testBit
  intro j
  rw [gp_rm_tb]
  cases s.testBit j <;> simp
theorem gp_rm_less {s i : Nat} (h : s.testBit i = true) : gp_df s (2 ^ i) < s := by
  rcases Nat.lt_or_eq_of_le (gp_rm_le s i) with q | q
  · exact q
  · have := gp_rm_tb s i i
    rw [q, h] at this
    simp at this
theorem gp_rm_cm (s i j : Nat) : gp_df (gp_df s (2 ^ i)) (2 ^ j) = gp_df (gp_df s (2 ^ j)) (2 ^ i) := by
  apply Nat.eq_of_testBit_eq
  intro x
  rw [gp_rm_tb, gp_rm_tb, gp_rm_tb, gp_rm_tb]
  cases s.testBit x <;> cases decide (i = x) <;> cases decide (j = x) <;> rfl
/-- a sum -/
def gp_su (f : Nat → Nat) : Nat → Nat
  | 0 => 0
  | n + 1 => gp_su f n + f n
theorem gp_su_cg {f h : Nat → Nat} : ∀ {n : Nat}, (∀ i, i < n → f i = h i) → gp_su f n = gp_su h n
  | 0, _ => rfl
  | n + 1, e => by rw [gp_su, gp_su, gp_su_cg (fun i hi => e i (by omega)), e n (by omega)]
theorem gp_su_0 : ∀ {n : Nat}, gp_su (fun _ => 0) n = 0
  | 0 => rfl
  | n + 1 => by rw [gp_su, gp_su_0]
theorem gp_su_add (f h : Nat → Nat) : ∀ n, gp_su (fun i => f i + h i) n = gp_su f n + gp_su h n
  | 0 => rfl
  | n + 1 => by rw [gp_su, gp_su, gp_su, gp_su_add f h n]; omega
theorem gp_su_sw (f : Nat → Nat → Nat) (k : Nat) : ∀ n, gp_su (fun i => gp_su (fun j => f i j) k) n = gp_su (fun j => gp_su (fun i => f i j) n) k
  | 0 => by simp only [gp_su]; exact gp_su_0.symm
  | n + 1 => by
    simp only [gp_su]
    rw [gp_su_sw f k n, gp_su_add]
theorem gp_su_if {b : Bool} {f : Nat → Nat} : ∀ {n : Nat}, (if b then gp_su f n else 0) = gp_su (fun i => if b then f i else 0) n
  | 0 => by cases b <;> rfl
  | n + 1 => by
    cases b
    · exact gp_su_0.symm
    · rfl
theorem gp_su_one {f : Nat → Nat} {a : Nat} : ∀ {n : Nat}, a < n → (∀ i, i < n → i ≠ a → f i = 0) → gp_su f n = f a
  | 0, h, _ => by omega
  | n + 1, h, e => by
    rw [gp_su]
    by_cases q : a = n
    · subst q
      rw [gp_su_cg (h := fun _ => 0) (fun i hi => e i (by omega) (by omega)), gp_su_0, Nat.zero_add]
    · rw [gp_su_one (by omega) (fun i hi => e i (by omega)), e n (by omega) (by omega), Nat.add_zero]
theorem gp_su_le {f : Nat → Nat} {b : Nat} : ∀ {n : Nat}, (∀ i, i < n → f i ≤ b) → gp_su f n ≤ n * b
  | 0, _ => by simp [gp_su]
  | n + 1, e => by
    rw [gp_su, Nat.succ_mul]
    exact Nat.add_le_add (gp_su_le (fun i hi => e i (by omega))) (e n (by omega))
theorem gp_su_ge {f : Nat → Nat} {a : Nat} : ∀ {n : Nat}, a < n → f a ≤ gp_su f n
  | 0, h => by omega
  | n + 1, h => by
    rw [gp_su]
    by_cases q : a = n
    · subst q; omega
    · have := gp_su_ge (f := f) (a := a) (n := n) (by omega)
      omega
theorem gp_su_pos {f : Nat → Nat} : ∀ {n : Nat}, 0 < gp_su f n ↔ ∃ i, i < n ∧ 0 < f i
  | 0 => by simp [gp_su]
  | n + 1 => by
    rw [gp_su]
    have ih := gp_su_pos (f := f) (n := n)
    constructor
    · intro h
      by_cases q : 0 < f n
      · exact ⟨n, by omega, q⟩
      · obtain ⟨i, h1, h2⟩ := ih.mp (by omega)
        exact ⟨i, by omega, h2⟩
    · rintro ⟨i, h1, h2⟩
      by_cases q : i = n
      · subst q; omega
      · have := ih.mpr ⟨i, by omega, h2⟩
        omega
/-- in how many orders all of a set can go behind one, the last of them t -/
def gp_Q (g : Nat) (A : Nat → Nat → Bool) (s i t : Nat) : Nat :=
  if s = 0 then (if i = t then 1 else 0)
  else gp_su (fun j => if h : s.testBit j = true then (if A i j then gp_Q g A (gp_df s (2 ^ j)) j t else 0) else 0) g
termination_by s
decreasing_by exact gp_rm_less h
/-- in how many orders all of a set can go behind one -/
def gp_N (g : Nat) (A : Nat → Nat → Bool) (s i : Nat) : Nat :=
  if s = 0 then 1
  else gp_su (fun j => if h : s.testBit j = true then (if A i j then gp_N g A (gp_df s (2 ^ j)) j else 0) else 0) g
termination_by s
decreasing_by exact gp_rm_less h
section GPQ
variable {g : Nat} {A : Nat → Nat → Bool}
theorem gp_Q0 {i t : Nat} : gp_Q g A 0 i t = if i = t then 1 else 0 := by rw [gp_Q, if_pos rfl]
theorem gp_QS {s i t : Nat} (h : s ≠ 0) : gp_Q g A s i t = gp_su (fun j => if s.testBit j = true then (if A i j then gp_Q g A (gp_df s (2 ^ j)) j t else 0) else 0) g := by
  rw [gp_Q, if_neg h]
  rfl
theorem gp_N0 {i : Nat} : gp_N g A 0 i = 1 := by rw [gp_N, if_pos rfl]
theorem gp_NS {s i : Nat} (h : s ≠ 0) : gp_N g A s i = gp_su (fun j => if s.testBit j = true then (if A i j then gp_N g A (gp_df s (2 ^ j)) j else 0) else 0) g := by
  rw [gp_N, if_neg h]
  rfl
/-- the last one is one of the set -/
theorem gp_Qz {t : Nat} : ∀ (s i : Nat), s ≠ 0 → s.testBit t = false → gp_Q g A s i t = 0 := by
  intro s
  induction s using Nat.strongRecOn with
  | ind s ih =>
    intro i h0 ht
    rw [gp_QS h0]
    rw [gp_su_cg (h := fun _ => 0), gp_su_0]
    intro j hj
    by_cases hb : s.testBit j = true
    · rw [if_pos hb]
      by_cases ha : A i j = true
      · rw [if_pos ha]
        by_cases hz : gp_df s (2 ^ j) = 0
        · rw [hz, gp_Q0, if_neg]
          intro e
          rw [e, ht] at hb
          cases hb
        · exact ih _ (gp_rm_less hb) j hz (by rw [gp_rm_tb, ht]; rfl)
      · rw [if_neg ha]
    · rw [if_neg hb]
/-- from the back -/
theorem gp_Qb {t : Nat} : ∀ (s i : Nat), s < 2 ^ g → i < 8 → g ≤ 7 → s.testBit t = true → gp_Q g A s i t = gp_su (fun p => if A p t then gp_Q g A (gp_df s (2 ^ t)) i p else 0) 8 := by
  intro s
  induction s using Nat.strongRecOn with
  | ind s ih =>
    intro i hs hi hg ht
    have htg : t < g := gp_tb_lt hs ht
    have h0 : s ≠ 0 := by
      intro e
      rw [e, Nat.zero_testBit] at ht
      cases ht
    rw [gp_QS h0]
    by_cases hz : gp_df s (2 ^ t) = 0
    · -- only t
      rw [gp_su_one (a := t) htg, if_pos ht, hz, gp_Q0, if_pos rfl, gp_su_one (a := i) hi, gp_Q0, if_pos rfl]
      · intro p hp hne
        have e0 : ¬ i = p := fun e => hne e.symm
        simp only [gp_Q0, e0, if_false]
        split <;> rfl
      · intro j hj hne
        have := gp_rm_tb s t j
        rw [hz, Nat.zero_testBit] at this
        rw [if_neg]
        intro hb
        rw [hb] at this
        simp at this
        omega
    · have e1 : gp_su (fun j => if s.testBit j = true then (if A i j then gp_Q g A (gp_df s (2 ^ j)) j t else 0) else 0) g = gp_su (fun j => gp_su (fun p => if (gp_df s (2 ^ t)).testBit j = true then (if A i j then (if A p t then gp_Q g A (gp_df (gp_df s (2 ^ t)) (2 ^ j)) j p else 0) else 0) else 0) 8) g := by
        refine gp_su_cg (fun j hj => ?_)
        by_cases hb : s.testBit j = true
        · rw [if_pos hb]
          by_cases ha : A i j = true
          · rw [if_pos ha]
            by_cases hjt : t = j
            · subst hjt
              rw [gp_Qz _ _ hz (by rw [gp_rm_tb]; simp)]
              rw [gp_su_cg (h := fun _ => 0), gp_su_0]
              intro p hp
              rw [if_neg]
              rw [gp_rm_tb]
              simp
            · rw [ih _ (gp_rm_less hb) j (gp_df_lt hs) (by omega) hg (by rw [gp_rm_tb, ht]; simp; omega)]
              refine gp_su_cg (fun p hp => ?_)
              have e3 : (gp_df s (2 ^ t)).testBit j = true := by rw [gp_rm_tb, hb]; simp; omega
              simp only [e3, ha, if_true]
              rw [gp_rm_cm]
          · rw [if_neg ha, gp_su_cg (h := fun _ => 0), gp_su_0]
            intro p hp
            rw [if_neg ha]
            split <;> rfl
        · rw [if_neg hb, gp_su_cg (h := fun _ => 0), gp_su_0]
          intro p hp
          rw [if_neg]
          rw [gp_rm_tb]
          simp [hb]
      rw [e1, gp_su_sw]
      refine gp_su_cg (fun p hp => ?_)
      by_cases ha : A p t = true
      · rw [if_pos ha, gp_QS hz]
        refine gp_su_cg (fun j hj => ?_)
        simp only [ha, if_true]
      · rw [if_neg ha, gp_su_cg (h := fun _ => 0), gp_su_0]
        intro j hj
        simp only [ha]
        simp
/-- all ends -/
theorem gp_QN (hg : g ≤ 7) : ∀ (s i : Nat), i < 8 → gp_su (fun t => gp_Q g A s i t) 8 = gp_N g A s i := by
  intro s
  induction s using Nat.strongRecOn with
  | ind s ih =>
    intro i hi
    by_cases h0 : s = 0
    · subst h0
      rw [gp_N0, gp_su_one (a := i) hi, gp_Q0, if_pos rfl]
      intro t ht hne
      rw [gp_Q0, if_neg (fun e => hne e.symm)]
    · rw [gp_NS h0, gp_su_cg (fun t _ => gp_QS h0), gp_su_sw]
      refine gp_su_cg (fun j hj => ?_)
      by_cases hb : s.testBit j = true
      · by_cases ha : A i j = true
        · simp only [hb, ha, if_true]
          exact ih _ (gp_rm_less hb) j (by omega)
        · simp only [ha]
          simp only [hb, if_true]
          exact gp_su_0
      · simp only [hb]
        exact gp_su_0
theorem gp_po_rm : ∀ s, s < 128 → ∀ j, j < 7 → s.testBit j = true → gp_po (gp_df s (2 ^ j)) + 1 = gp_po s := by decide +kernel
theorem gp_N_le (hg : g ≤ 7) : ∀ (s i : Nat), s < 2 ^ g → gp_N g A s i ≤ 7 ^ gp_po s := by
  intro s
  induction s using Nat.strongRecOn with
  | ind s ih =>
    intro i hs
    by_cases h0 : s = 0
    · subst h0
      rw [gp_N0]
      decide
    · rw [gp_NS h0]
      have h7 := gp_p7 hg
      have hp : ∃ k, gp_po s = k + 1 := by
        have : ∃ j, s.testBit j = true := by
          apply Classical.byContradiction
          intro q
          apply h0
          rw [gp_z]
          intro j
          cases hb : s.testBit j
          · rfl
          · exact absurd ⟨j, hb⟩ q
        obtain ⟨j, hj⟩ := this
        have := gp_po_rm s (by omega) j (by have := gp_tb_lt hs hj; omega) hj
        exact ⟨_, this.symm⟩
      obtain ⟨k, hk⟩ := hp
      have := gp_su_le (f := fun j => if s.testBit j = true then (if A i j then gp_N g A (gp_df s (2 ^ j)) j else 0) else 0) (b := 7 ^ k) (n := g) (fun j hj => ?_)
      · rw [hk, Nat.pow_succ, Nat.mul_comm]
        refine Nat.le_trans this ?_
        exact Nat.mul_le_mul_right _ hg
      · by_cases hb : s.testBit j = true
        · rw [if_pos hb]
          split
          · have e := gp_po_rm s (by omega) j (by omega) hb
            have := ih _ (gp_rm_less hb) j (gp_df_lt hs)
            rw [show gp_po (gp_df s (2 ^ j)) = k by omega] at this
            exact this
          · exact Nat.zero_le _
        · rw [if_neg hb]
          exact Nat.zero_le _
theorem gp_po_7 : ∀ s, s < 128 → gp_po s ≤ 7 := by decide +kernel
theorem gp_N_lt (hg : g ≤ 7) {s i : Nat} (hs : s < 2 ^ g) : gp_N g A s i ≤ 823543 := by
  have h7 := gp_p7 hg
  refine Nat.le_trans (gp_N_le hg s i hs) ?_
  exact Nat.pow_le_pow_right (by decide) (gp_po_7 s (by omega))
theorem gp_Q_le (hg : g ≤ 7) {s i t : Nat} (hs : s < 2 ^ g) (hi : i < 8) (ht : t < 8) : gp_Q g A s i t ≤ 823543 := by
  have h1 := gp_N_lt (A := A) (i := i) hg hs
  rw [← gp_QN hg s i hi] at h1
  exact Nat.le_trans (gp_su_ge (f := fun t => gp_Q g A s i t) ht) h1
/-- one of the set comes first -/
theorem gp_N_pos {s i : Nat} (h : s ≠ 0) : 0 < gp_N g A s i ↔ ∃ j, j < g ∧ s.testBit j = true ∧ A i j = true ∧ 0 < gp_N g A (gp_df s (2 ^ j)) j := by
  rw [gp_NS h, gp_su_pos]
  constructor
  · rintro ⟨j, h1, h2⟩
    by_cases hb : s.testBit j = true
    · rw [if_pos hb] at h2
      by_cases ha : A i j = true
      · rw [if_pos ha] at h2
        exact ⟨j, h1, hb, ha, h2⟩
      · rw [if_neg ha] at h2; omega
    · rw [if_neg hb] at h2; omega
  · rintro ⟨j, h1, hb, ha, h2⟩
    exact ⟨j, h1, by rw [if_pos hb, if_pos ha]; exact h2⟩
/-- each has someone ahead of him -/
theorem gp_N_ahead : ∀ (s i j : Nat), 0 < gp_N g A s i → s.testBit j = true → A i j = true ∨ ∃ p, p < g ∧ s.testBit p = true ∧ p ≠ j ∧ A p j = true := by
  intro s
  induction s using Nat.strongRecOn with
  | ind s ih =>
    intro i j h hj
    have h0 : s ≠ 0 := by
      intro e
      rw [e, Nat.zero_testBit] at hj
      cases hj
    obtain ⟨f, h1, h2, h3, h4⟩ := (gp_N_pos h0).mp h
    by_cases e : f = j
    · subst e; exact Or.inl h3
    · right
      rcases ih _ (gp_rm_less h2) f j h4 (by rw [gp_rm_tb, hj]; simp [e]) with q | ⟨p, p1, p2, p3, p4⟩
      · exact ⟨f, h1, h2, e, q⟩
      · rw [gp_rm_tb] at p2
        exact ⟨p, p1, by revert p2; cases s.testBit p <;> simp, p3, p4⟩
/-- nobody goes who may not -/
theorem gp_N_in {D : Nat} (hA : ∀ i j, A i j = true → D.testBit j = true) : ∀ (s i : Nat), s < 2 ^ g → 0 < gp_N g A s i → ∀ j, s.testBit j = true → D.testBit j = true := by
  intro s i hs h j hj
  rcases gp_N_ahead s i j h hj with q | ⟨p, -, -, -, q⟩
  · exact hA _ _ q
  · exact hA _ _ q
/-- the greatest of some -/
def gp_mx (f : Nat → Nat) : Nat → Nat
  | 0 => 0
  | n + 1 => if gp_mx f n < f n then f n else gp_mx f n
theorem gp_mx_ge {f : Nat → Nat} : ∀ {n i : Nat}, i < n → f i ≤ gp_mx f n
  | 0, i, h => by omega
  | n + 1, i, h => by
    rw [gp_mx]
    by_cases q : i = n
    · subst q; split <;> omega
    · have := gp_mx_ge (f := f) (n := n) (i := i) (by omega)
      split <;> omega
theorem gp_mx_is {f : Nat → Nat} : ∀ {n : Nat}, gp_mx f n = 0 ∨ ∃ i, i < n ∧ gp_mx f n = f i
  | 0 => Or.inl rfl
  | n + 1 => by
    rw [gp_mx]
    split
    · exact Or.inr ⟨n, by omega, rfl⟩
    · rcases gp_mx_is (f := f) (n := n) with q | ⟨i, h1, h2⟩
      · exact Or.inl q
      · exact Or.inr ⟨i, by omega, h2⟩
theorem gp_mx_cg {f h : Nat → Nat} : ∀ {n : Nat}, (∀ i, i < n → f i = h i) → gp_mx f n = gp_mx h n
  | 0, _ => rfl
  | n + 1, e => by rw [gp_mx, gp_mx, gp_mx_cg (fun i hi => e i (by omega)), e n (by omega)]
/-- how many of a set can go behind one, at most -/
def gp_E (g : Nat) (A : Nat → Nat → Bool) (s i : Nat) : Nat :=
  gp_mx (fun j => if h : s.testBit j = true then (if A i j then 1 + gp_E g A (gp_df s (2 ^ j)) j else 0) else 0) g
termination_by s
decreasing_by exact gp_rm_less h
theorem gp_ES {s i : Nat} : gp_E g A s i = gp_mx (fun j => if s.testBit j = true then (if A i j then 1 + gp_E g A (gp_df s (2 ^ j)) j else 0) else 0) g := by
  rw [gp_E]
  rfl
/-- a part of a set -/
def gp_sb (a b : Nat) : Prop := ∀ j, a.testBit j = true → b.testBit j = true
theorem gp_sb0 {a : Nat} (h : gp_sb a 0) : a = 0 := by
  rw [gp_z]
  intro j
  cases hb : a.testBit j
  · rfl
  · have := h j hb
    rw [Nat.zero_testBit] at this
    cases this
theorem gp_sb_le {a b : Nat} (h : gp_sb a b) : a ≤ b := Nat.le_of_testBit h
theorem gp_Elem (hg : g ≤ 7) : ∀ (s i k : Nat), s < 2 ^ g → ((∃ t, gp_sb t s ∧ gp_po t = k ∧ 0 < gp_N g A t i) ↔ k ≤ gp_E g A s i) := by
  intro s
  have h7 := gp_p7 hg
  induction s using Nat.strongRecOn with
  | ind s ih =>
    intro i k hs
    constructor
    · rintro ⟨t, h1, h2, h3⟩
      by_cases h0 : t = 0
      · subst h0
        have : gp_po 0 = 0 := by decide
        omega
      · obtain ⟨j, j1, j2, j3, j4⟩ := (gp_N_pos h0).mp h3
        have hsj := h1 j j2
        have hts := gp_sb_le h1
        have e := gp_po_rm t (by omega) j (by omega) j2
        have := (ih _ (gp_rm_less hsj) j (k - 1) (gp_df_lt hs)).mp ⟨gp_df t (2 ^ j), ?_, by omega, j4⟩
        · rw [gp_ES]
          have q := gp_mx_ge (f := fun j => if s.testBit j = true then (if A i j then 1 + gp_E g A (gp_df s (2 ^ j)) j else 0) else 0) j1
          simp only [hsj, j3, if_true] at q
          omega
        · intro x hx
          rw [gp_rm_tb] at hx ⊢
          have := h1 x
          revert hx this
          cases t.testBit x <;> cases s.testBit x <;> cases decide (j = x) <;> simp
    · intro hk
      by_cases hk0 : k = 0
      · subst hk0
        exact ⟨0, (fun j hj => by rw [Nat.zero_testBit] at hj; cases hj), by decide, by rw [gp_N0]; decide⟩
      · rw [gp_ES] at hk
        rcases gp_mx_is (f := fun j => if s.testBit j = true then (if A i j then 1 + gp_E g A (gp_df s (2 ^ j)) j else 0) else 0) (n := g) with q | ⟨j, j1, j2⟩
        · omega
        · rw [j2] at hk
          by_cases hb : s.testBit j = true
          · by_cases ha : A i j = true
            · simp only [hb, ha, if_true] at hk
              obtain ⟨t, t1, t2, t3⟩ := (ih _ (gp_rm_less hb) j (k - 1) (gp_df_lt hs)).mpr (by omega)
              have htj : t.testBit j = false := by
                cases q : t.testBit j
                · rfl
                · have := t1 j q
                  rw [gp_rm_tb] at this
                  simp at this
              have er : gp_df (t ||| 2 ^ j) (2 ^ j) = t := by
                apply Nat.eq_of_testBit_eq
                intro x
                rw [gp_rm_tb, Nat.testBit_or, Nat.testBit_two_pow]
                by_cases e : j = x
                · subst e; simp [htj]
                · simp [e]
              have hsb : gp_sb (t ||| 2 ^ j) s := by
                intro x hx
                rw [Nat.testBit_or, Nat.testBit_two_pow] at hx
                by_cases e : j = x
                · subst e; exact hb
                · have := t1 x (by simpa [e] using hx)
                  rw [gp_rm_tb] at this
                  revert this
                  cases s.testBit x <;> simp
              have hle := gp_sb_le hsb
              have hbit : (t ||| 2 ^ j).testBit j = true := by rw [Nat.testBit_or, Nat.testBit_two_pow_self]; simp
              refine ⟨t ||| 2 ^ j, hsb, ?_, ?_⟩
              · have := gp_po_rm (t ||| 2 ^ j) (by omega) j (by omega) hbit
                rw [er] at this
                omega
              · refine (gp_N_pos ?_).mpr ⟨j, j1, hbit, ha, by rw [er]; exact t3⟩
                intro e
                rw [e, Nat.zero_testBit] at hbit
                cases hbit
            · simp only [ha] at hk
              simp at hk
              omega
          · simp only [hb] at hk
            simp at hk
            omega
theorem gp_po_sb : ∀ a, a < 128 → ∀ b, b < 128 → a &&& b = a → gp_po a ≤ gp_po b := by decide +kernel
theorem gp_sb_and {a b : Nat} (h : gp_sb a b) : a &&& b = a := by
  apply Nat.eq_of_testBit_eq
  intro j
  rw [Nat.testBit_and]
  have := h j
  revert this
  cases a.testBit j <;> cases b.testBit j <;> simp
theorem gp_sb_po {a b : Nat} (hb : b < 128) (h : gp_sb a b) : gp_po a ≤ gp_po b := gp_po_sb a (by have := gp_sb_le h; omega) b hb (gp_sb_and h)
theorem gp_E_le (hg : g ≤ 7) {s i : Nat} (hs : s < 2 ^ g) : gp_E g A s i ≤ gp_po s := by
  have h7 := gp_p7 hg
  obtain ⟨t, h1, h2, -⟩ := (gp_Elem (A := A) hg s i (gp_E g A s i) hs).mpr (Nat.le_refl _)
  rw [← h2]
  exact gp_sb_po (by omega) h1
/-- the most of a set, if not all of it: without one -/
theorem gp_E_rank (hg : g ≤ 7) {s i : Nat} (hs : s < 2 ^ g) : gp_E g A s i = if 0 < gp_N g A s i then gp_po s else gp_mx (fun j => if s.testBit j = true then gp_E g A (gp_df s (2 ^ j)) i else 0) g := by
  have h7 := gp_p7 hg
  have hle := gp_E_le (A := A) (i := i) hg hs
  by_cases hN : 0 < gp_N g A s i
  · rw [if_pos hN]
    have := (gp_Elem (A := A) hg s i (gp_po s) hs).mp ⟨s, fun _ h => h, rfl, hN⟩
    omega
  · rw [if_neg hN]
    apply Nat.le_antisymm
    · obtain ⟨t, h1, h2, h3⟩ := (gp_Elem (A := A) hg s i (gp_E g A s i) hs).mpr (Nat.le_refl _)
      have : ∃ j, s.testBit j = true ∧ t.testBit j = false := by
        apply Classical.byContradiction
        intro q
        apply hN
        have : s = t := by
          apply Nat.eq_of_testBit_eq
          intro j
          have a1 := h1 j
          cases b1 : s.testBit j <;> cases b2 : t.testBit j
          · rfl
          · rw [b1, b2] at a1; simp at a1
          · exact absurd ⟨j, b1, b2⟩ q
          · rfl
        rw [this]
        exact h3
      obtain ⟨j, j1, j2⟩ := this
      have e := (gp_Elem (A := A) hg (gp_df s (2 ^ j)) i (gp_E g A s i) (gp_df_lt hs)).mp ⟨t, ?_, h2, h3⟩
      · have := gp_mx_ge (f := fun j => if s.testBit j = true then gp_E g A (gp_df s (2 ^ j)) i else 0) (gp_tb_lt hs j1)
        simp only [j1, if_true] at this
        omega
      · intro x hx
        rw [gp_rm_tb, h1 x hx]
        by_cases ee : j = x
        · subst ee; rw [hx] at j2; cases j2
        · simp [ee]
    · rcases gp_mx_is (f := fun j => if s.testBit j = true then gp_E g A (gp_df s (2 ^ j)) i else 0) (n := g) with q | ⟨j, j1, j2⟩
      · omega
      · rw [j2]
        by_cases hb : s.testBit j = true
        · rw [if_pos hb]
          obtain ⟨t, h1, h2, h3⟩ := (gp_Elem (A := A) hg (gp_df s (2 ^ j)) i _ (gp_df_lt hs)).mpr (Nat.le_refl _)
          refine (gp_Elem (A := A) hg s i _ hs).mp ⟨t, fun x hx => ?_, h2, h3⟩
          have := h1 x hx
          rw [gp_rm_tb] at this
          revert this
          cases s.testBit x <;> simp
        · rw [if_neg hb]
          exact Nat.zero_le _
/-- by turns: whether the one to let somebody go, behind one, wins -/
def gp_w (g : Nat) (A : Nat → Nat → Bool) (s i : Nat) : Bool :=
  decide (0 < gp_su (fun j => if h : s.testBit j = true then (if A i j && !gp_w g A (gp_df s (2 ^ j)) j then 1 else 0) else 0) g)
termination_by s
decreasing_by all_goals exact gp_rm_less (by assumption)
theorem gp_winS {s i : Nat} : gp_w g A s i = true ↔ ∃ j, j < g ∧ s.testBit j = true ∧ A i j = true ∧ gp_w g A (gp_df s (2 ^ j)) j = false := by
  rw [gp_w]
  simp only [decide_eq_true_eq]
  rw [gp_su_pos]
  constructor
  · rintro ⟨j, h1, h2⟩
    by_cases hb : s.testBit j = true
    · rw [dif_pos hb] at h2
      refine ⟨j, h1, hb, ?_⟩
      revert h2
      cases A i j <;> cases gp_w g A (gp_df s (2 ^ j)) j <;> simp
    · rw [dif_neg hb] at h2; omega
  · rintro ⟨j, h1, hb, ha, h2⟩
    exact ⟨j, h1, by rw [dif_pos hb, ha, h2]; decide⟩
end GPQ
