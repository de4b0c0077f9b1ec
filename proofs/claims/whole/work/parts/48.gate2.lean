/-! PURE: gate: the reference takes its drafts -/
def gp_g2A (m : gn_M) (T0 : Nat → Nat) (j : Nat) : gn_M := (fun a b => if a = 45 ∧ b < j then m.1 45 (7 + b) else if a = 46 ∧ b < j then m.1 46 (7 + b) else if a = 48 ∧ b < j then nI (T0 b) else m.1 a b, m.2)
theorem gp_g2S {m : gn_M} {T0 : Nat → Nat} {j : Nat} : gn_up (gn_up (gn_up (gp_g2A m T0 j) 45 j (m.1 45 (7 + j))) 46 j (m.1 46 (7 + j))) 48 j (nI (T0 j)) = gp_g2A m T0 (j + 1) := by
  refine Prod.ext ?_ rfl
  funext a b
  rw [gp_u, gp_u, gp_u]
  dsimp only [gp_g2A]
  by_cases e1 : a = 45
  · by_cases e : b = j
    · simp [e1, e]
    · by_cases e2 : b < j
      · simp [e1, e, e2, show b < j + 1 by omega]
      · simp [e1, e, e2, show ¬ b < j + 1 by omega]
  · by_cases e3 : a = 46
    · by_cases e : b = j
      · simp [e3, e]
      · by_cases e2 : b < j
        · simp [e3, e, e2, show b < j + 1 by omega]
        · simp [e3, e, e2, show ¬ b < j + 1 by omega]
    · by_cases e4 : a = 48
      · by_cases e : b = j
        · simp [e4, e]
        · by_cases e2 : b < j
          · simp [e4, e, e2, show b < j + 1 by omega]
          · simp [e4, e, e2, show ¬ b < j + 1 by omega]
      · simp [e1, e3, e4]
theorem gp_g2f {m : gn_M} {T0 : Nat → Nat} {j k : Nat} (h1 : k ≠ 45) (h2 : k ≠ 46) (h3 : k ≠ 48) : (gp_g2A m T0 j).1 k = m.1 k := by
  funext b
  simp [gp_g2A, h1, h2, h3]
theorem gp_g2L {n : Nat} (hn : 5000 ≤ n) {m : gn_M} {g : Nat} {F : Nat → Nat} {k : gn_M → Option (Int32 × gn_M)} (hg : g ≤ 7) (e10 : m.1 38 10 = nI g) (hF : ∀ j, j < g → F j ≤ 9 ∧ m.1 47 (7 + j) = nI (F j)) : L_X4_gate_47 n k n (nI 0) m = k (gp_g2A m (fun j => gp_t0 g (F j) j) g) := by
  have a0 : gp_g2A m (fun j => gp_t0 g (F j) j) 0 = m := by
    refine Prod.ext ?_ rfl
    funext a b
    simp [gp_g2A]
  have q := gp_lp0 (Lf := fun f j (A : gn_M) => L_X4_gate_47 n k f (nI j) A) (N := g) (A := fun j => gp_g2A m (fun j => gp_t0 g (F j) j) j) (r := k (gp_g2A m (fun j => gp_t0 g (F j) j) g)) (fun f j hj => ?_) (fun f => ?_) (f := n) (by omega)
  · rw [a0] at q
    exact q
  · show L_X4_gate_47 n k (f + 1) (nI j) (gp_g2A m (fun j => gp_t0 g (F j) j) j) = L_X4_gate_47 n k f (nI (j + 1)) (gp_g2A m (fun j => gp_t0 g (F j) j) (j + 1))
    rw [L_X4_gate_47, ← gp_g2S]
    obtain ⟨A, hA⟩ : ∃ A, A = gp_g2A m (fun j => gp_t0 g (F j) j) j := ⟨_, rfl⟩
    have r10 : A.1 38 10 = nI g := by rw [hA, gp_g2f (by decide) (by decide) (by decide)]; exact e10
    have r45 : A.1 45 (7 + j) = m.1 45 (7 + j) := by rw [hA]; simp [gp_g2A, show ¬ 7 + j < j by omega]
    rw [← hA]
    obtain ⟨m7, hm7⟩ : ∃ x, x = gn_up A 45 j (m.1 45 (7 + j)) := ⟨_, rfl⟩
    have r46 : m7.1 46 (7 + j) = m.1 46 (7 + j) := by rw [hm7, gp_une (by decide), hA]; simp [gp_g2A, show ¬ 7 + j < j by omega]
    obtain ⟨m9, hm9⟩ : ∃ x, x = gn_up m7 46 j (m.1 46 (7 + j)) := ⟨_, rfl⟩
    have r47 : m9.1 47 (7 + j) = nI (F j) := by rw [hm9, gp_une (by decide), hm7, gp_une (by decide), hA, gp_g2f (by decide) (by decide) (by decide)]; exact (hF j hj).2
    have r9 : m9.1 38 10 = nI g := by rw [hm9, gp_une (by decide), hm7, gp_une (by decide)]; exact r10
    have f9 := (hF j hj).1
    by_cases c1 : F j < g
    · by_cases c2 : F j = j
      · have t : gp_t0 g (F j) j = 0 := by unfold gp_t0; simp [c2]
        simp (disch := omega) only [gp_lit, r10, gp_lt, hj, if_true, nI_add, Nat.zero_add, gp_rd, r45, gp_wr, ← hm7, r46, ← hm9, r47, r9, c1, gp_eq, c2, t]
        simp (disch := omega) only [t, c2 ▸ t]
      · have t : gp_t0 g (F j) j = 2 ^ F j := by unfold gp_t0; simp [c1, c2]
        simp (disch := omega) only [gp_lit, r10, gp_lt, hj, if_true, if_false, nI_add, Nat.zero_add, gp_rd, r45, gp_wr, ← hm7, r46, ← hm9, r47, r9, c1, gp_eq, c2, t, gp_sh]
    · have t : gp_t0 g (F j) j = 0 := by unfold gp_t0; simp [c1]
      simp (disch := omega) only [gp_lit, r10, gp_lt, hj, if_true, if_false, nI_add, Nat.zero_add, gp_rd, r45, gp_wr, ← hm7, r46, ← hm9, r47, r9, c1, t]
  · show L_X4_gate_47 n k (f + 1) (nI g) (gp_g2A m (fun j => gp_t0 g (F j) j) g) = _
    have r10 : (gp_g2A m (fun j => gp_t0 g (F j) j) g).1 38 10 = nI g := by rw [gp_g2f (by decide) (by decide) (by decide)]; exact e10
    rw [L_X4_gate_47]
    simp (disch := omega) only [gp_lit, gp_lt, r10, Nat.lt_irrefl, if_false]
