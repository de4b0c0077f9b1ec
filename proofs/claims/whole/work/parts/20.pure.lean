/-! PURE: numbers, sets by bits, loops -/
theorem gp_lp {α R : Type} {Lf : Nat → Nat → α → R} {N : Nat} {A : Nat → α} {r : R} (h1 : ∀ f i, i < N → Lf (f + 1) i (A i) = Lf f (i + 1) (A (i + 1))) (h2 : ∀ f, Lf (f + 1) N (A N) = r) : ∀ k i f, i + k = N → k < f → Lf f i (A i) = r := by
  intro k
  induction k with
  | zero =>
    intro i f hi hf
    obtain ⟨g, rfl⟩ : ∃ g, f = g + 1 := ⟨f - 1, by omega⟩
    have e : i = N := by omega
    subst e
    exact h2 g
  | succ k ih =>
    intro i f hi hf
    obtain ⟨g, rfl⟩ : ∃ g, f = g + 1 := ⟨f - 1, by omega⟩
    rw [h1 g i (by omega)]
    exact ih (i + 1) g (by omega) (by omega)
theorem gp_lp0 {α R : Type} {Lf : Nat → Nat → α → R} {N : Nat} {A : Nat → α} {r : R} (h1 : ∀ f i, i < N → Lf (f + 1) i (A i) = Lf f (i + 1) (A (i + 1))) (h2 : ∀ f, Lf (f + 1) N (A N) = r) {f : Nat} (hf : N < f) : Lf f 0 (A 0) = r := gp_lp h1 h2 N 0 f (by omega) hf
theorem gp_lit (n : Nat) : (OfNat.ofNat n : Int32) = nI n := rfl
theorem gp_lt {a b : Nat} (ha : a < 2147483648) (hb : b < 2147483648) : (nI a < nI b) = (a < b) := propext (nI_ltI (by omega) (by omega))
theorem gp_eq {a b : Nat} (ha : a < 2147483648) (hb : b < 2147483648) : (nI a = nI b) = (a = b) := propext (nI_eq (by omega) (by omega))
theorem gp_cl {a : Nat} (ha : a < 2147483648) : (nI a).toNatClampNeg = a := nI_clamp (by omega)
theorem gp_nn {a : Nat} (ha : a < 2147483648) : (nI a < nI 0) = False := by rw [gp_lt ha (by decide)]; exact propext ⟨fun h => by omega, fun h => h.elim⟩
theorem gp_rd {α : Type} {m : gn_M} {k n i : Nat} {K : Int32 → Option α} (h : i < n) (hi : i < 2147483648) : gn_rd m k n (nI i) K = K (m.1 k i) := by
  unfold gn_rd
  have e : ¬ (nI i < 0 ∨ n ≤ (nI i).toNatClampNeg) := by
    rw [gp_cl hi]
    have := gp_nn hi
    intro hh
    rcases hh with hh | hh
    · exact (this ▸ hh : False)
    · omega
  rw [if_neg e, gp_cl hi]
theorem gp_wr {α : Type} {m : gn_M} {k n i : Nat} {x : Int32} {K : gn_M → Option α} (h : i < n) (hi : i < 2147483648) : gn_wr m k n (nI i) x K = K (gn_up m k i x) := by
  unfold gn_wr
  have e : ¬ (nI i < 0 ∨ n ≤ (nI i).toNatClampNeg) := by
    rw [gp_cl hi]
    have := gp_nn hi
    intro hh
    rcases hh with hh | hh
    · exact (this ▸ hh : False)
    · omega
  rw [if_neg e, gp_cl hi]
theorem gp_ra {α : Type} {B n i : Nat} {K : Nat → Option α} (h : i < n) (hi : i < 2147483648) : gn_ra B n (nI i) K = K (B + i) := by
  unfold gn_ra
  have e : ¬ (nI i < 0 ∨ n ≤ (nI i).toNatClampNeg) := by
    rw [gp_cl hi]
    have := gp_nn hi
    intro hh
    rcases hh with hh | hh
    · exact (this ▸ hh : False)
    · omega
  rw [if_neg e, gp_cl hi]
theorem gp_rl {α : Type} {i : Nat} {K : Int32 → Option α} (h : i < 6) : gn_rl (nI i) K = K (gn_let i) := by
  unfold gn_rl
  have hi : i < 2147483648 := by omega
  have e : ¬ (nI i < 0 ∨ 6 ≤ (nI i).toNatClampNeg) := by
    rw [gp_cl hi]
    have := gp_nn hi
    intro hh
    rcases hh with hh | hh
    · exact (this ▸ hh : False)
    · omega
  rw [if_neg e, gp_cl hi]
theorem gp_bs {α β : Type} (x : α) (K : α → Option β) : (some x).bind K = K x := rfl
theorem gp_u {m : gn_M} {k i a b : Nat} {v : Int32} : (gn_up m k i v).1 a b = if a = k ∧ b = i then v else m.1 a b := rfl
theorem gp_u2 {m : gn_M} {k i : Nat} {v : Int32} : (gn_up m k i v).2 = m.2 := rfl
theorem gp_uL {m : gn_M} {k i a b : Nat} {v : Int64} : (gn_upL m k i v).2 a b = if a = k ∧ b = i then v else m.2 a b := rfl
theorem gp_uL1 {m : gn_M} {k i : Nat} {v : Int64} : (gn_upL m k i v).1 = m.1 := rfl
theorem gp_une {m : gn_M} {k i a : Nat} {v : Int32} (h : a ≠ k) : (gn_up m k i v).1 a = m.1 a := gn_up_1 h
/-- an index: below 0, within, beyond -/
theorem gp_ix (x : Int32) (n : Nat) (hn : n < 2147483648) : x < 0 ∨ (∃ j : Nat, j < n ∧ x = nI j) ∨ (¬ x < 0 ∧ ¬ x < nI n) := by
  by_cases h : x < 0
  · exact Or.inl h
  · obtain ⟨j, hj, rfl⟩ := nI_of h
    by_cases h2 : j < n
    · exact Or.inr (Or.inl ⟨j, h2, rfl⟩)
    · exact Or.inr (Or.inr ⟨h, fun q => h2 ((gp_lt (by omega) hn) ▸ q)⟩)
