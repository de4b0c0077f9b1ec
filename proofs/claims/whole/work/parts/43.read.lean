/-! PURE: reading a text, the reference -/
section GPR
variable {n : Nat} {m : gn_M} {t z : Nat} {X : Nat → Int32}
theorem gp_r112 (hn : 5000 ≤ n) (ht : t < 4) (hz : z ≤ 60) (e42 : m.1 42 t = nI z) (eX : ∀ j, j < 60 → m.1 43 (60 * t + j) = X j) {i : Nat} (hi : i < z) {k : Unit → Option (Int32 × gn_M)} : L_X4_read_112 n m (nI t) (nI i) k n (nI 1) = if ¬ (i + 1 < z ∧ gp_fg (X (i + 1)) = true) then some (nI (i + 1), m) else if ¬ (i + 2 < z ∧ gp_fg (X (i + 2)) = true) then some (nI (i + 2), m) else k () := by
  obtain ⟨k', hk'⟩ : ∃ k', n = k' + 3 := ⟨n - 3, by omega⟩
  have st : ∀ (f v : Nat), (v = 1 ∨ v = 2) → i + v ≤ z → L_X4_read_112 n m (nI t) (nI i) k (f + 1) (nI v) = if ¬ (i + v < z ∧ gp_fg (X (i + v)) = true) then some (nI (i + v), m) else L_X4_read_112 n m (nI t) (nI i) k f (nI (v + 1)) := fun f v hv hvz => by
    rw [L_X4_read_112]
    by_cases q : i + v = z
    · simp (disch := omega) only [gp_lit, gp_lt, show ¬ 2 < v by omega, if_false, gp_rd, e42, nI_add, gp_eq, q, if_true, Nat.lt_irrefl, false_and, not_false_iff]
    · have ex : m.1 43 (60 * t + i + v) = X (i + v) := by rw [Nat.add_assoc]; exact eX _ (by omega)
      by_cases q2 : gp_fg (X (i + v)) = true
      · simp (disch := omega) only [gp_lit, gp_lt, show ¬ 2 < v by omega, if_false, gp_rd, e42, nI_add, gp_eq, q, if_true, pk_mul, ex, gp_fgM, q2, Option.bind_some, Nat.one_ne_zero, show i + v < z by omega, true_and, not_true]
      · simp (disch := omega) only [gp_lit, gp_lt, show ¬ 2 < v by omega, if_false, gp_rd, e42, nI_add, gp_eq, q, if_true, pk_mul, ex, gp_fgM, q2, Option.bind_some, and_false, not_false_iff, Bool.false_eq_true]
  have en : ∀ f : Nat, L_X4_read_112 n m (nI t) (nI i) k (f + 1) (nI 3) = k () := fun f => by
    rw [L_X4_read_112]
    simp (disch := omega) only [gp_lit, gp_lt, show 2 < 3 by decide, if_true]
  have e0 : L_X4_read_112 n m (nI t) (nI i) k n (nI 1) = L_X4_read_112 n m (nI t) (nI i) k (k' + 3) (nI 1) := by rw [← hk']
  rw [e0, st _ 1 (Or.inl rfl) (by omega)]
  by_cases c1 : i + 1 < z ∧ gp_fg (X (i + 1)) = true
  · rw [if_neg (fun q => q c1), if_neg (fun q => q c1), st _ 2 (Or.inr rfl) (by omega), en]
  · rw [if_pos c1, if_pos c1]
end GPR
/-- what a reading leaves alone -/
def gp_fR (m m2 : gn_M) (c : Nat) : Prop := (∀ k, k ≠ 38 → k ≠ 45 → k ≠ 46 → k ≠ 47 → m2.1 k = m.1 k) ∧ (∀ j, j ≠ 14 → m2.1 38 j = m.1 38 j) ∧ (∀ j, j < 7 + c → m2.1 45 j = m.1 45 j ∧ m2.1 46 j = m.1 46 j ∧ m2.1 47 j = m.1 47 j) ∧ m2.2 = m.2
/-- what a reading drafts -/
def gp_dR (m2 : gn_M) (X : Nat → Int32) (c : Nat) (P : List Nat) : Prop := ∀ k (h : k < P.length), m2.1 45 (7 + c + k) = gp_kI (X P[k]) ∧ m2.1 46 (7 + c + k) = X (P[k] + 1) - nI 48 ∧ m2.1 47 (7 + c + k) = X (P[k] + 2) - nI 48
theorem gp_fR.rfl' {m : gn_M} {c : Nat} : gp_fR m m c := ⟨fun _ _ _ _ _ => rfl, fun _ _ => rfl, fun _ _ => ⟨rfl, rfl, rfl⟩, rfl⟩
theorem gp_rdL {n : Nat} (hn : 5000 ≤ n) {t z : Nat} {X : Nat → Int32} (ht : t < 4) (hz : z ≤ 60) : ∀ (r i c f f' : Nat) (m : gn_M), z - i ≤ r → r < f → r < f' → c ≤ 7 → i ≤ z → m.1 42 t = nI z → (∀ j, j < 60 → m.1 43 (60 * t + j) = X j) → m.1 38 14 = nI c → ∃ m2, L_X4_read_7 n (nI t) f (nI i) m = some ((gp_prs X z f' i c).1, m2) ∧ gp_fR m m2 c ∧ gp_dR m2 X c (gp_prs X z f' i c).2 ∧ ((gp_prs X z f' i c).1 = -9 → m2.1 38 14 = nI (c + (gp_prs X z f' i c).2.length) ∧ 2 ≤ c + (gp_prs X z f' i c).2.length ∧ c + (gp_prs X z f' i c).2.length ≤ 7)
  | r, i, c, f + 1, f' + 1, m, h1, h2, h3, hc, hi, e42, eX, e14 => by
    have ne9 : ∀ x : Nat, x < 2147483648 → ¬ nI x = (-9 : Int32) := fun x hx q => by
      have h0 : (nI x < nI 0) = False := gp_nn hx
      rw [q] at h0
      exact absurd h0 (by decide)
    rw [L_X4_read_7, gp_prs]
    by_cases q : i < z
    · obtain ⟨r', rfl⟩ : ∃ r', r = r' + 1 := ⟨r - 1, by omega⟩
      have ex : m.1 43 (60 * t + i) = X i := eX i (by omega)
      by_cases q2 : X i = nI 32
      · have ih := gp_rdL hn (X := X) ht hz r' (i + 1) c f f' m (by omega) (by omega) (by omega) hc (by omega) e42 eX e14
        simp only [q, q2, if_true]
        simp (disch := omega) only [gp_lit, gp_rd, e42, gp_lt, q, if_true, pk_mul, nI_add, ex, q2]
        exact ih
      · by_cases q3 : c = 7
        · simp only [q, q2, q3, if_true, if_false]
          refine ⟨m, ?_, gp_fR.rfl', fun k hk => absurd hk (Nat.not_lt_zero k), fun w => absurd w (ne9 i (by omega))⟩
          simp (disch := omega) only [gp_lit, gp_rd, e42, gp_lt, q, if_true, if_false, pk_mul, nI_add, ex, q2, gp_eq, show ¬ i = z by omega, gp_kIM, Option.bind_some, e14, q3]
          split <;> rfl
        · by_cases c1 : gp_kI (X i) = -9
          · have c1' : gp_kI (X i) = -nI 9 := c1
            simp only [q, q2, q3, c1, if_true, if_false]
            refine ⟨m, ?_, gp_fR.rfl', fun k hk => absurd hk (Nat.not_lt_zero k), fun w => absurd w (ne9 i (by omega))⟩
            simp (disch := omega) only [gp_lit, gp_rd, e42, gp_lt, q, if_true, if_false, pk_mul, nI_add, ex, q2, gp_eq, show ¬ i = z by omega, gp_kIM, Option.bind_some, c1']
          · have c1' : ¬ gp_kI (X i) = -nI 9 := c1
            obtain ⟨m7, hm7⟩ : ∃ m7, m7 = gn_up m 45 (7 + c) (gp_kI (X i)) := ⟨_, rfl⟩
            have f7 : ∀ k, k ≠ 45 → m7.1 k = m.1 k := fun k hk => by rw [hm7]; exact gp_une hk
            have e42' : m7.1 42 t = nI z := by rw [f7 42 (by decide)]; exact e42
            have eX' : ∀ j, j < 60 → m7.1 43 (60 * t + j) = X j := fun j hj => by rw [f7 43 (by decide)]; exact eX j hj
            have e14' : m7.1 38 14 = nI c := by rw [f7 38 (by decide)]; exact e14
            have fr7 : gp_fR m m7 c := by
              refine ⟨fun k _ h45 _ _ => f7 k h45, fun j _ => by rw [f7 38 (by decide)], fun j hj => ⟨?_, by rw [f7 46 (by decide)], by rw [f7 47 (by decide)]⟩, by rw [hm7]; rfl⟩
              rw [hm7, gp_u, if_neg (by omega)]
            have wm := fun k => gp_r112 (k := k) hn ht hz e42' eX' q
            simp only [q, q2, q3, c1, if_true, if_false]
            simp (disch := omega) only [gp_lit, gp_rd, e42, gp_lt, q, if_true, if_false, pk_mul, nI_add, ex, q2, gp_eq, show ¬ i = z by omega, gp_kIM, Option.bind_some, c1', e14, q3, gp_wr, ← hm7, wm]
            by_cases c2 : i + 1 < z ∧ gp_fg (X (i + 1)) = true
            · by_cases c3 : i + 2 < z ∧ gp_fg (X (i + 2)) = true
              · obtain ⟨m12, hm12⟩ : ∃ x, x = gn_up m7 46 (7 + c) (X (i + 1) - nI 48) := ⟨_, rfl⟩
                obtain ⟨m14, hm14⟩ : ∃ x, x = gn_up m12 47 (7 + c) (X (i + 2) - nI 48) := ⟨_, rfl⟩
                obtain ⟨m15, hm15⟩ : ∃ x, x = gn_up m14 38 14 (nI (c + 1)) := ⟨_, rfl⟩
                have x1 : m7.1 43 (60 * t + i + 1) = X (i + 1) := by rw [Nat.add_assoc]; exact eX' _ (by omega)
                have g12 : ∀ k, k ≠ 46 → m12.1 k = m7.1 k := fun k hk => by rw [hm12]; exact gp_une hk
                have g14 : ∀ k, k ≠ 47 → m14.1 k = m12.1 k := fun k hk => by rw [hm14]; exact gp_une hk
                have g15 : ∀ k, k ≠ 38 → m15.1 k = m14.1 k := fun k hk => by rw [hm15]; exact gp_une hk
                have x2 : m12.1 43 (60 * t + i + 2) = X (i + 2) := by rw [g12 43 (by decide), Nat.add_assoc]; exact eX' _ (by omega)
                have y12 : m12.1 38 14 = nI c := by rw [g12 38 (by decide)]; exact e14'
                have y14 : m14.1 38 14 = nI c := by rw [g14 38 (by decide)]; exact y12
                have y15 : m15.1 38 14 = nI (c + 1) := by rw [hm15, gp_u, if_pos ⟨rfl, rfl⟩]
                obtain ⟨m2, z1, z2, z3, z4⟩ := gp_rdL hn (X := X) ht hz r' (i + 3) (c + 1) f f' m15 (by omega) (by omega) (by omega) (by omega) (by omega) (by rw [g15 42 (by decide), g14 42 (by decide), g12 42 (by decide)]; exact e42') (fun j hj => by rw [g15 43 (by decide), g14 43 (by decide), g12 43 (by decide)]; exact eX' j hj) y15
                refine ⟨m2, ?_, ⟨fun k k1 k2 k3 k4 => ?_, fun j hj => ?_, fun j hj => ⟨?_, ?_, ?_⟩, ?_⟩, fun k hk => ?_, fun w => ?_⟩
                · simp (disch := omega) only [c2, c3, and_self, not_true, if_false, gp_rd, x1, e14', nI_add, gp_wr, ← hm12, x2, y12, ← hm14, y14, gp_pf, ← hm15, z1]
                · rw [z2.1 k k1 k2 k3 k4, g15 k k1, g14 k k4, g12 k k3, f7 k k2]
                · rw [z2.2.1 j hj, hm15, gp_u, if_neg (by omega), g14 38 (by decide), g12 38 (by decide), f7 38 (by decide)]
                · rw [(z2.2.2.1 j (by omega)).1, g15 45 (by decide), g14 45 (by decide), g12 45 (by decide)]; exact (fr7.2.2.1 j hj).1
                · rw [(z2.2.2.1 j (by omega)).2.1, g15 46 (by decide), g14 46 (by decide), hm12, gp_u, if_neg (by omega)]; exact (fr7.2.2.1 j hj).2.1
                · rw [(z2.2.2.1 j (by omega)).2.2, g15 47 (by decide), hm14, gp_u, if_neg (by omega), g12 47 (by decide)]; exact (fr7.2.2.1 j hj).2.2
                · rw [z2.2.2.2, hm15, gp_u2, hm14, gp_u2, hm12, gp_u2]; exact fr7.2.2.2
                · revert hk
                  simp only [c2, c3, and_self, not_true, if_false]
                  intro hk
                  cases k with
                  | zero =>
                    have z := z2.2.2.1 (7 + c) (by omega)
                    refine ⟨?_, ?_, ?_⟩
                    · show m2.1 45 (7 + c) = gp_kI (X i)
                      rw [z.1, g15 45 (by decide), g14 45 (by decide), g12 45 (by decide), hm7, gp_u, if_pos ⟨rfl, rfl⟩]
                    · show m2.1 46 (7 + c) = X (i + 1) - nI 48
                      rw [z.2.1, g15 46 (by decide), g14 46 (by decide), hm12, gp_u, if_pos ⟨rfl, rfl⟩]
                    · show m2.1 47 (7 + c) = X (i + 2) - nI 48
                      rw [z.2.2, g15 47 (by decide), hm14, gp_u, if_pos ⟨rfl, rfl⟩]
                  | succ k =>
                    have y := z3 k (by simpa using hk)
                    rw [show 7 + c + (k + 1) = 7 + (c + 1) + k by omega]
                    exact y
                · revert w
                  simp only [c2, c3, and_self, not_true, if_false]
                  intro w
                  have y := z4 w
                  rw [List.length_cons, show c + ((gp_prs X z f' (i + 3) (c + 1)).2.length + 1) = c + 1 + (gp_prs X z f' (i + 3) (c + 1)).2.length by omega]
                  exact y
              · simp only [c2, c3, and_self, not_true, not_false_iff, if_true, if_false]
                exact ⟨m7, rfl, fr7, fun k hk => absurd hk (Nat.not_lt_zero k), fun w => absurd w (ne9 (i + 2) (by omega))⟩
            · simp only [c2, not_false_iff, if_true]
              exact ⟨m7, rfl, fr7, fun k hk => absurd hk (Nat.not_lt_zero k), fun w => absurd w (ne9 (i + 1) (by omega))⟩
    · have iz : i = z := by omega
      by_cases q4 : c < 2
      · simp only [q, q4, if_true, if_false]
        refine ⟨m, ?_, gp_fR.rfl', fun k hk => absurd hk (Nat.not_lt_zero k), fun w => absurd w (ne9 z (by omega))⟩
        simp (disch := omega) only [gp_lit, gp_rd, e42, gp_lt, q, if_true, if_false, gp_eq, iz, e14, q4, Nat.lt_irrefl]
      · simp only [q, q4, if_false]
        refine ⟨m, ?_, gp_fR.rfl', fun k hk => absurd hk (Nat.not_lt_zero k), fun w => ⟨e14, by show 2 ≤ c + 0; omega, by show c + 0 ≤ 7; omega⟩⟩
        simp (disch := omega) only [gp_lit, gp_rd, e42, gp_lt, q, if_true, if_false, gp_eq, iz, e14, q4, Nat.lt_irrefl]
