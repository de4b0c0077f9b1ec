/-! PURE: gate: the reference -/
theorem gp_g3L {n : Nat} (hn : 5000 ≤ n) {m : gn_M} {k : gn_M → Option (Int32 × gn_M)} : L_X4_gate_161 n k n (nI 0) m = k (gp_rg m 50 0 3 (-1)) := by
  have q := gp_lp0 (Lf := fun f j (A : gn_M) => L_X4_gate_161 n k f (nI j) A) (N := 3) (A := fun j => gp_rg m 50 0 j (-1)) (r := k (gp_rg m 50 0 3 (-1))) (fun f j hj => ?_) (fun f => ?_) (f := n) (by omega)
  · rw [gp_rg_0] at q
    exact q
  · show L_X4_gate_161 n k (f + 1) (nI j) (gp_rg m 50 0 j (-1)) = L_X4_gate_161 n k f (nI (j + 1)) (gp_rg m 50 0 (j + 1) (-1))
    rw [L_X4_gate_161, ← gp_rg_s, Nat.zero_add]
    simp (disch := omega) only [gp_lit, gp_lt, hj, if_true, gp_wr, nI_add]
  · show L_X4_gate_161 n k (f + 1) (nI 3) (gp_rg m 50 0 3 (-1)) = _
    rw [L_X4_gate_161]
    simp (disch := omega) only [gp_lit, gp_lt, Nat.lt_irrefl, if_false]
/-- the reference's gate, after a good reading -/
theorem gp_gatM {n : Nat} (hn : 5000 ≤ n) {m m2 : gn_M} {t z g : Nat} {X : Nat → Int32} {P : List Nat} {K Wt F : Nat → Nat} (ht : t < 4) (hz : z ≤ 60) (e42 : m.1 42 t = nI z) (q2 : f_X4_isText (nI t) = some (nI 1)) (hr : f_X4_read n m (nI t) = some (-9, m2)) (fR : gp_fR (gn_up m 38 14 (nI 0)) m2 0) (dR : gp_dR m2 X 0 P) (hg : g = P.length) (e14 : m2.1 38 14 = nI g) (h7 : g ≤ 7) (hK : ∀ j (h : j < P.length), K j < 6 ∧ gp_kI (X P[j]) = nI (K j)) (hW : ∀ j (h : j < P.length), X (P[j] + 1) - nI 48 = nI (Wt j)) (hF : ∀ j (h : j < P.length), F j ≤ 9 ∧ X (P[j] + 2) - nI 48 = nI (F j)) : ∃ M, f_X4_gate n m (nI t) = some (nI g, M) ∧ gp_cM M g 0 K Wt (fun j => gp_t0 g (F j) j) 0 7 0 ∧ (∀ p, p < 3 → M.1 50 p = -1) ∧ (∀ k, k ≠ 38 → k ≠ 45 → k ≠ 46 → k ≠ 47 → k ≠ 48 → k ≠ 50 → M.1 k = m.1 k) ∧ M.1 38 0 = m.1 38 0 ∧ M.1 38 2 = m.1 38 2 ∧ M.2 = m.2 := by
  obtain ⟨f1, f2, f3, f4⟩ := fR
  obtain ⟨m5, hm5⟩ : ∃ x, x = gn_up m2 38 10 (nI g) := ⟨_, rfl⟩
  have e10 : m5.1 38 10 = nI g := by rw [hm5, gp_u, if_pos ⟨rfl, rfl⟩]
  have b47 : ∀ j, j < g → F j ≤ 9 ∧ m5.1 47 (7 + j) = nI (F j) := fun j hj => by
    have y := (dR j (by omega)).2.2
    rw [Nat.add_zero] at y
    rw [hm5, gp_une (by decide), y]
    exact hF j (by omega)
  obtain ⟨B, hB⟩ : ∃ x, x = gp_g2A m5 (fun j => gp_t0 g (F j) j) g := ⟨_, rfl⟩
  have y47 := fun k => gp_g2L (k := k) hn h7 e10 b47
  rw [← hB] at y47
  obtain ⟨C, hC⟩ : ∃ x, x = gn_up (gn_up (gn_up (gn_up B 48 7 (nI 0)) 48 8 (-nI 9)) 48 9 (nI 0)) 38 16 (nI 0) := ⟨_, rfl⟩
  have fB : ∀ k, k ≠ 45 → k ≠ 46 → k ≠ 48 → B.1 k = m5.1 k := fun k k1 k2 k3 => by rw [hB, gp_g2f k1 k2 k3]
  have C38 : ∀ j, j ≠ 16 → C.1 38 j = m5.1 38 j := fun j hj => by rw [hC, gp_u, if_neg (by omega), gp_une (by decide), gp_une (by decide), gp_une (by decide), fB 38 (by decide) (by decide) (by decide)]
  have fC : ∀ k, k ≠ 38 → k ≠ 48 → C.1 k = B.1 k := fun k k1 k2 => by rw [hC, gp_une k1, gp_une k2, gp_une k2, gp_une k2]
  have y10 : (gp_rg C 50 0 3 (-1)).1 38 10 = nI g := by rw [gp_rg_ne (by decide), C38 10 (by decide)]; exact e10
  refine ⟨gp_rg C 50 0 3 (-1), ?_, ⟨⟨y10, ?_, ?_, ?_, ?_⟩, fun j hj => ⟨?_, ?_, ?_⟩⟩, fun p hp => gp_rg_in (by omega) (by omega), fun k k1 k2 k3 k4 k5 k6 => ?_, ?_, ?_, ?_⟩
  · have hr' : f_X4_read n m (nI t) = some (-nI 9, m2) := hr
    simp (disch := omega) only [f_X4_gate, gp_lit, q2, Option.bind_some, gp_eq, Nat.one_ne_zero, if_false, if_true, gp_rd, e42, gp_lt, Nat.not_lt_zero, hr', gp_pf, e14, ← hm5, y47, gp_wr, ← hC, gp_g3L hn]
    show (some ((gp_rg C 50 0 3 (-1)).1 38 10, gp_rg C 50 0 3 (-1)) : Option (Int32 × gn_M)) = _
    rw [y10]
    rfl
  · rw [gp_rg_ne (by decide), hC, gp_u, if_pos ⟨rfl, rfl⟩]
  · rw [gp_rg_ne (by decide), hC, gp_une (by decide), gp_u, if_neg (by decide), gp_u, if_neg (by decide), gp_u, if_pos ⟨rfl, rfl⟩]
  · rw [gp_rg_ne (by decide), hC, gp_une (by decide), gp_u, if_neg (by decide), gp_u, if_pos ⟨rfl, rfl⟩]; rfl
  · rw [gp_rg_ne (by decide), hC, gp_une (by decide), gp_u, if_pos ⟨rfl, rfl⟩]
  · have y := (dR j (by omega)).1
    rw [Nat.add_zero] at y
    rw [gp_rg_ne (by decide), fC 45 (by decide) (by decide), hB]
    simp only [gp_g2A, hj, and_self, if_true, hm5]
    rw [gp_une (by decide), y]; exact (hK j (by omega)).2
  · have y := (dR j (by omega)).2.1
    rw [Nat.add_zero] at y
    rw [gp_rg_ne (by decide), fC 46 (by decide) (by decide), hB]
    simp only [gp_g2A, hj, and_self, if_true, hm5, show ¬ (46 : Nat) = 45 by decide, false_and, if_false]
    rw [gp_une (by decide), y]; exact hW j (by omega)
  · rw [gp_rg_ne (by decide), hC, gp_une (by decide), gp_u, if_neg (by omega), gp_u, if_neg (by omega), gp_u, if_neg (by omega), hB]
    simp [gp_g2A, hj]
  · rw [gp_rg_ne k6, fC k k1 k5, fB k k2 k3 k5, hm5, gp_une k1, f1 k k1 k2 k3 k4, gp_une k1]
  · rw [gp_rg_ne (by decide), C38 0 (by decide), hm5, gp_u, if_neg (by decide), f2 0 (by decide), gp_u, if_neg (by decide)]
  · rw [gp_rg_ne (by decide), C38 2 (by decide), hm5, gp_u, if_neg (by decide), f2 2 (by decide), gp_u, if_neg (by decide)]
  · show C.2 = m.2
    rw [hC, gp_u2, gp_u2, gp_u2, gp_u2, hB]
    show m5.2 = m.2
    rw [hm5, gp_u2, f4, gp_u2]
