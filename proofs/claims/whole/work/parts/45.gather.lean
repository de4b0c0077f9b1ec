/-! PURE: gate, the class's gathering -/
/-- the goers of a list of places, gathered from c on -/
def gp_gaA (X : Nat → Int32) (M : gn_M) (c : Nat) (P : List Nat) (M' : gn_M) : Prop := M'.1 7 6 = nI (c + P.length) ∧ (∀ j, j ≠ 6 → M'.1 7 j = M.1 7 j) ∧ (∀ k, k ≠ 7 → k ≠ 27 → k ≠ 28 → k ≠ 29 → k ≠ 31 → M'.1 k = M.1 k) ∧ M'.2 = M.2 ∧ (∀ j, j < c → M'.1 27 j = M.1 27 j ∧ M'.1 28 j = M.1 28 j ∧ M'.1 29 j = M.1 29 j) ∧ (∀ k (h : k < P.length), M'.1 27 (c + k) = gp_kI (X P[k]) ∧ M'.1 28 (c + k) = X (P[k] + 1) - nI 48 ∧ M'.1 29 (c + k) = (1 : Int32) <<< ((X (P[k] + 2) - nI 48) &&& 31))
theorem gp_kI_lt {x : Int32} (h : ¬ gp_kI x = -9) : ∃ k : Nat, k < 6 ∧ gp_kI x = nI k := by
  unfold gp_kI at h ⊢
  repeat' split
  · exact ⟨0, by decide, rfl⟩
  · exact ⟨1, by decide, rfl⟩
  · exact ⟨2, by decide, rfl⟩
  · exact ⟨3, by decide, rfl⟩
  · exact ⟨4, by decide, rfl⟩
  · exact ⟨5, by decide, rfl⟩
  · simp_all
theorem gp_kI32 : gp_kI (nI 32) = -9 := by decide
theorem gp_ne9 {x : Nat} (hx : x < 2147483648) : ¬ nI x = (-9 : Int32) := fun q => by
  have h0 : (nI x < nI 0) = False := gp_nn hx
  rw [q] at h0
  exact absurd h0 (by decide)
theorem gp_prs_nil {X : Nat → Int32} {z : Nat} (hz : z ≤ 60) : ∀ (f i c : Nat), i ≤ 70 → (z ≤ i + 2 ∨ c = 7) → (gp_prs X z f i c).1 = -9 → (gp_prs X z f i c).2 = []
  | 0, _, _, _, _, _ => rfl
  | f + 1, i, c, hi, h, e => by
    rw [gp_prs] at e ⊢
    by_cases q : i < z
    · simp only [q, if_true] at e ⊢
      by_cases q2 : X i = nI 32
      · simp only [q2, if_true] at e ⊢
        exact gp_prs_nil hz f (i + 1) c (by omega) (by omega) e
      · simp only [q2, if_false] at e ⊢
        by_cases q3 : c = 7
        · simp only [q3, if_true] at e ⊢
        · simp only [q3, if_false] at e ⊢
          by_cases c1 : gp_kI (X i) = -9
          · simp only [c1, if_true] at e ⊢
          · simp only [c1, if_false] at e ⊢
            by_cases c2 : i + 1 < z ∧ gp_fg (X (i + 1)) = true
            · have c3 : ¬ (i + 2 < z ∧ gp_fg (X (i + 2)) = true) := fun w => by omega
              simp only [c2, c3, and_self, not_true, not_false_iff, if_true, if_false] at e ⊢
            · simp only [c2, not_false_iff, if_true] at e ⊢
    · simp only [q, if_false] at e ⊢
      split <;> rfl
