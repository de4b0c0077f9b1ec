/-! PURE: gate: figures, what was told at first -/
theorem gp_fgv {x : Int32} (h : gp_fg x = true) : ∃ j : Nat, j ≤ 9 ∧ x - nI 48 = nI j := by
  unfold gp_fg at h
  have h := of_decide_eq_true h
  have h0 : ¬ x < 0 := fun q => h.1 (by
    rw [Int32.lt_iff_toInt_lt] at q ⊢
    rw [nI_toInt (by omega)]
    have : (0 : Int32).toInt = 0 := by decide
    omega)
  obtain ⟨v, hv, rfl⟩ := nI_of h0
  rw [gp_lt (by omega) (by omega), gp_lt (by omega) (by omega)] at h
  refine ⟨v - 48, by omega, ?_⟩
  have e : nI (v - 48) + nI 48 = nI v := by rw [nI_add, show v - 48 + 48 = v by omega]
  grind
theorem gp_prs_ok {X : Nat → Int32} {z : Nat} : ∀ (f i c : Nat), ∀ p ∈ (gp_prs X z f i c).2, ¬ gp_kI (X p) = -9 ∧ gp_fg (X (p + 1)) = true ∧ gp_fg (X (p + 2)) = true
  | 0, _, _, p, h => by simp [gp_prs] at h
  | f + 1, i, c, p, h => by
    rw [gp_prs] at h
    by_cases q : i < z
    · simp only [q, if_true] at h
      by_cases q2 : X i = nI 32
      · simp only [q2, if_true] at h
        exact gp_prs_ok f (i + 1) c p h
      · simp only [q2, if_false] at h
        by_cases q3 : c = 7
        · simp [q3] at h
        · simp only [q3, if_false] at h
          by_cases c1 : gp_kI (X i) = -9
          · simp [c1] at h
          · simp only [c1, if_false] at h
            by_cases c2 : i + 1 < z ∧ gp_fg (X (i + 1)) = true
            · by_cases c3 : i + 2 < z ∧ gp_fg (X (i + 2)) = true
              · simp only [c2, c3, and_self, not_true, if_false] at h
                rcases List.mem_cons.mp h with e | e
                · rw [e]; exact ⟨c1, c2.2, c3.2⟩
                · exact gp_prs_ok f (i + 3) (c + 1) p e
              · rw [if_neg (fun w => w c2), if_pos c3] at h; simp at h
            · rw [if_pos c2] at h; simp at h
    · simp only [q, if_false] at h
      split at h <;> simp at h
def gp_t0 (g F j : Nat) : Nat := if F < g ∧ F ≠ j then 2 ^ F else 0
theorem gp_t0e : ∀ F, F < 10 → ∀ g, g < 8 → ∀ j, j < 7 → 2 ^ F &&& gp_df (2 ^ g - 1) (2 ^ j) = gp_t0 g F j := by decide +kernel
theorem gp_t0l {g F j : Nat} : gp_t0 g F j < 2 ^ g ∧ (gp_t0 g F j).testBit j = false := by
  unfold gp_t0
  split
  · next h => exact ⟨Nat.pow_lt_pow_right (by decide) h.1, by rw [Nat.testBit_two_pow]; simp [h.2]⟩
  · exact ⟨Nat.two_pow_pos g, by simp⟩
def gp_g1A (M : gn_M) (T0 : Nat → Nat) (j : Nat) : gn_M := (fun a b => if a = 29 ∧ b < j then nI (T0 b) else M.1 a b, M.2)
theorem gp_g1S {M : gn_M} {T0 : Nat → Nat} {j : Nat} : gn_up (gp_g1A M T0 j) 29 j (nI (T0 j)) = gp_g1A M T0 (j + 1) := by
  refine Prod.ext ?_ rfl
  funext a b
  rw [gp_u]
  dsimp only [gp_g1A]
  by_cases e : a = 29 ∧ b = j
  · rw [if_pos e, if_pos ⟨e.1, by omega⟩, e.2]
  · rw [if_neg e]
    by_cases e2 : a = 29 ∧ b < j
    · rw [if_pos e2, if_pos ⟨e2.1, by omega⟩]
    · rw [if_neg e2, if_neg (fun q => by
        have := fun z => e2 ⟨q.1, z⟩
        have := fun z => e ⟨q.1, z⟩
        omega)]
theorem gp_g1L {n : Nat} (hn : 5000 ≤ n) {M : gn_M} {g : Nat} {F : Nat → Nat} {k : gn_M → Option gn_M} (hg : g ≤ 7) (e6 : M.1 7 6 = nI g) (hF : ∀ j, j < g → F j ≤ 9 ∧ M.1 29 j = nI (2 ^ F j)) : L_X0_gather_134 n k n (nI 0) M = k (gp_g1A M (fun j => gp_t0 g (F j) j) g) := by
  have a0 : gp_g1A M (fun j => gp_t0 g (F j) j) 0 = M := by
    refine Prod.ext ?_ rfl
    funext a b
    dsimp only [gp_g1A]
    rw [if_neg (by omega)]
  have e6' : ∀ j, (gp_g1A M (fun j => gp_t0 g (F j) j) j).1 7 6 = nI g := fun j => by simp [gp_g1A, e6]
  have pg : nI (2 ^ g) - nI 1 = nI (2 ^ g - 1) := by
    have := Nat.two_pow_pos g
    have e : nI (2 ^ g - 1) + nI 1 = nI (2 ^ g) := by rw [nI_add, show 2 ^ g - 1 + 1 = 2 ^ g by omega]
    grind
  have q := gp_lp0 (Lf := fun f j (A : gn_M) => L_X0_gather_134 n k f (nI j) A) (N := g) (A := fun j => gp_g1A M (fun j => gp_t0 g (F j) j) j) (r := k (gp_g1A M (fun j => gp_t0 g (F j) j) g)) (fun f j hj => ?_) (fun f => ?_) (f := n) (by omega)
  · rw [a0] at q
    exact q
  · show L_X0_gather_134 n k (f + 1) (nI j) (gp_g1A M (fun j => gp_t0 g (F j) j) j) = L_X0_gather_134 n k f (nI (j + 1)) (gp_g1A M (fun j => gp_t0 g (F j) j) (j + 1))
    rw [L_X0_gather_134, ← gp_g1S]
    have r : (gp_g1A M (fun j => gp_t0 g (F j) j) j).1 29 j = nI (2 ^ F j) := by
      have := (hF j hj).2
      simp [gp_g1A, this]
    have te := gp_t0e (F j) (by have := (hF j hj).1; omega) g (by omega) j (by omega)
    simp (disch := omega) only [gp_lit, gp_lt, e6', hj, if_true, gp_rd, r, gp_sh, gp_sh2, pg, gp_nt, gp_and, te, gp_wr, nI_add]
  · show L_X0_gather_134 n k (f + 1) (nI g) (gp_g1A M (fun j => gp_t0 g (F j) j) g) = _
    rw [L_X0_gather_134]
    simp (disch := omega) only [gp_lit, gp_lt, e6', Nat.lt_irrefl, if_false]
