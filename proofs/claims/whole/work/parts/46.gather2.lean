/-! PURE: gate, the class's gathering, its loop -/
theorem gp_gaL {n : Nat} (hn : 5000 ≤ n) {a z : Nat} {X : Nat → Int32} {K : Nat → Nat} {k : gn_M → Option gn_M} (hz : z ≤ 60) (ha : a ≠ 7 ∧ a ≠ 27 ∧ a ≠ 28 ∧ a ≠ 29 ∧ a ≠ 31) : ∀ (r i c f f' : Nat) (M : gn_M), z - i ≤ r → r < f → r < f' → c ≤ 7 → i ≤ z → (∀ j, j < 60 → M.1 a j = X j) → M.1 7 6 = nI c → (gp_prs X z f' i c).1 = -9 → (∀ j (h : j < (gp_prs X z f' i c).2.length), K (c + j) < 6 ∧ gp_kI (X (gp_prs X z f' i c).2[j]) = nI (K (c + j))) → (∀ q, q < 6 → M.1 31 q = nI (gp_bs1 (fun i => K i == q) c)) → ∃ M', L_X0_gather_15 n a (nI z) k f (nI i) M = k M' ∧ gp_gaA X M c (gp_prs X z f' i c).2 M' ∧ ∀ q, q < 6 → M'.1 31 q = nI (gp_bs1 (fun i => K i == q) (c + (gp_prs X z f' i c).2.length))
  | r, i, c, f + 1, f' + 1, M, h1, h2, h3, hc, hi, eX, e6, e9, eK, e31 => by
    have stop : (z ≤ i + 2 ∨ c = 7) → ∃ M', L_X0_gather_15 n a (nI z) k (f + 1) (nI i) M = k M' ∧ gp_gaA X M c (gp_prs X z (f' + 1) i c).2 M' ∧ ∀ q, q < 6 → M'.1 31 q = nI (gp_bs1 (fun i => K i == q) (c + (gp_prs X z (f' + 1) i c).2.length)) := fun w => by
      rw [gp_prs_nil hz (f' + 1) i c (by omega) w e9]
      refine ⟨M, ?_, ⟨e6, fun _ _ => rfl, fun _ _ _ _ _ _ => rfl, rfl, fun _ _ => ⟨rfl, rfl, rfl⟩, fun k hk => absurd hk (Nat.not_lt_zero k)⟩, e31⟩
      rw [L_X0_gather_15]
      by_cases w1 : i + 2 < z
      · simp (disch := omega) only [gp_lit, nI_add, gp_lt, w1, if_true, e6, show ¬ c < 7 by omega, if_false]
      · simp (disch := omega) only [gp_lit, nI_add, gp_lt, w1, if_false]
    by_cases w : z ≤ i + 2 ∨ c = 7
    · exact stop w
    · obtain ⟨r', rfl⟩ : ∃ r', r = r' + 1 := ⟨r - 1, by omega⟩
      have q : i < z := by omega
      have q3 : ¬ c = 7 := by omega
      rw [L_X0_gather_15]
      by_cases q2 : X i = nI 32
      · have pe : gp_prs X z (f' + 1) i c = gp_prs X z f' (i + 1) c := by rw [gp_prs]; simp only [q, q2, if_true]
        rw [pe] at e9 eK ⊢
        have ih := gp_gaL hn (K := K) (k := k) hz ha r' (i + 1) c f f' M (by omega) (by omega) (by omega) hc (by omega) eX e6 e9 eK e31
        have k9 : gp_kI (nI 32) = -nI 9 := gp_kI32
        simp (disch := omega) only [gp_lit, nI_add, gp_lt, show i + 2 < z by omega, if_true, e6, show c < 7 by omega, gp_rd, eX i (by omega), q2, gp_kIC hn, Option.bind_some, k9]
        exact ih
      · by_cases c1 : gp_kI (X i) = -9
        · exfalso
          rw [gp_prs] at e9
          simp only [q, q2, q3, c1, if_true, if_false] at e9
          exact gp_ne9 (by omega) e9
        · by_cases c2 : i + 1 < z ∧ gp_fg (X (i + 1)) = true
          · by_cases c3 : i + 2 < z ∧ gp_fg (X (i + 2)) = true
            · have pe : gp_prs X z (f' + 1) i c = ((gp_prs X z f' (i + 3) (c + 1)).1, i :: (gp_prs X z f' (i + 3) (c + 1)).2) := by rw [gp_prs]; simp only [q, q2, q3, c1, c2, c3, if_true, if_false, not_true, and_self]
              rw [pe] at e9 eK ⊢
              dsimp only at e9 eK ⊢
              obtain ⟨kc, kq⟩ : K c < 6 ∧ gp_kI (X i) = nI (K c) := eK 0 (by simp)
              have kq9 : ¬ nI (K c) = -nI 9 := gp_ne9 (by omega)
              obtain ⟨v, hv⟩ : ∃ v, v = nI 1 <<< ((X (i + 2) - nI 48) &&& nI 31) := ⟨_, rfl⟩
              obtain ⟨m5, hm5⟩ : ∃ x, x = gn_up M 27 c (nI (K c)) := ⟨_, rfl⟩
              obtain ⟨m7, hm7⟩ : ∃ x, x = gn_up m5 28 c (X (i + 1) - nI 48) := ⟨_, rfl⟩
              obtain ⟨m9, hm9⟩ : ∃ x, x = gn_up m7 29 c v := ⟨_, rfl⟩
              obtain ⟨m11, hm11⟩ : ∃ x, x = gn_up m9 31 (K c) (nI (gp_bs1 (fun i => K i == K c) c ||| 2 ^ c)) := ⟨_, rfl⟩
              obtain ⟨m12, hm12⟩ : ∃ x, x = gn_up m11 7 6 (nI (c + 1)) := ⟨_, rfl⟩
              have g5 : ∀ k, k ≠ 27 → m5.1 k = M.1 k := fun k hk => by rw [hm5]; exact gp_une hk
              have g7 : ∀ k, k ≠ 28 → m7.1 k = m5.1 k := fun k hk => by rw [hm7]; exact gp_une hk
              have g9 : ∀ k, k ≠ 29 → m9.1 k = m7.1 k := fun k hk => by rw [hm9]; exact gp_une hk
              have g11 : ∀ k, k ≠ 31 → m11.1 k = m9.1 k := fun k hk => by rw [hm11]; exact gp_une hk
              have g12 : ∀ k, k ≠ 7 → m12.1 k = m11.1 k := fun k hk => by rw [hm12]; exact gp_une hk
              have s5 : m5.1 7 6 = nI c := by rw [g5 7 (by decide)]; exact e6
              have s7 : m7.1 7 6 = nI c := by rw [g7 7 (by decide)]; exact s5
              have s9 : m9.1 7 6 = nI c := by rw [g9 7 (by decide)]; exact s7
              have s11 : m11.1 7 6 = nI c := by rw [g11 7 (by decide)]; exact s9
              have s12 : m12.1 7 6 = nI (c + 1) := by rw [hm12, gp_u, if_pos ⟨rfl, rfl⟩]
              have x5 : m5.1 a (i + 1) = X (i + 1) := by rw [g5 a ha.2.1]; exact eX _ (by omega)
              have x7 : m7.1 a (i + 2) = X (i + 2) := by rw [g7 a ha.2.2.1, g5 a ha.2.1]; exact eX _ (by omega)
              have t9 : m9.1 31 (K c) = nI (gp_bs1 (fun i => K i == K c) c) := by rw [g9 31 (by decide), g7 31 (by decide), g5 31 (by decide)]; exact e31 _ kc
              have X12 : ∀ j, j < 60 → m12.1 a j = X j := fun j hj => by rw [g12 a ha.1, g11 a ha.2.2.2.2, g9 a ha.2.2.2.1, g7 a ha.2.2.1, g5 a ha.2.1]; exact eX j hj
              have e31' : ∀ q, q < 6 → m12.1 31 q = nI (gp_bs1 (fun i => K i == q) (c + 1)) := fun q hq => by
                rw [g12 31 (by decide), hm11, gp_u, gp_bs1]
                by_cases e : q = K c
                · rw [if_pos ⟨rfl, e⟩, e, if_pos (by simp)]
                · rw [if_neg (fun w => e w.2), if_neg (by simp; exact fun w => e w.symm), g9 31 (by decide), g7 31 (by decide), g5 31 (by decide)]; exact e31 q hq
              obtain ⟨M', z1, ⟨z2, z3, z4, z5, z6, z7⟩, z8⟩ := gp_gaL hn (K := K) (k := k) hz ha r' (i + 3) (c + 1) f f' m12 (by omega) (by omega) (by omega) (by omega) (by omega) X12 s12 e9 (fun j hj => by
                have := eK (j + 1) (by simpa using hj)
                rw [show c + 1 + j = c + (j + 1) by omega]
                exact this) e31'
              refine ⟨M', ?_, ⟨?_, fun j hj => ?_, fun k' k1 k2 k3 k4 k5 => ?_, ?_, fun j hj => ⟨?_, ?_, ?_⟩, fun k' hk' => ?_⟩, fun q hq => ?_⟩
              · simp (disch := omega) only [gp_lit, nI_add, gp_lt, c3, if_true, if_false, e6, show c < 7 by omega, gp_rd, eX i (by omega), gp_kIC hn, Option.bind_some, kq, kq9, gp_wr, ← hm5, x5, s5, ← hm7, x7, s7, ← hv, ← hm9, t9, s9, gp_sh, gp_or, ← hm11, gp_pf, s11, ← hm12, z1]
              · rw [z2, List.length_cons]; congr 1; omega
              · rw [z3 j hj, hm12, gp_u, if_neg (by omega), g11 7 (by decide), g9 7 (by decide), g7 7 (by decide), g5 7 (by decide)]
              · rw [z4 k' k1 k2 k3 k4 k5, g12 k' k1, g11 k' k5, g9 k' k4, g7 k' k3, g5 k' k2]
              · rw [z5, hm12, gp_u2, hm11, gp_u2, hm9, gp_u2, hm7, gp_u2, hm5, gp_u2]
              · rw [(z6 j (by omega)).1, g12 27 (by decide), g11 27 (by decide), g9 27 (by decide), g7 27 (by decide), hm5, gp_u, if_neg (by omega)]
              · rw [(z6 j (by omega)).2.1, g12 28 (by decide), g11 28 (by decide), g9 28 (by decide), hm7, gp_u, if_neg (by omega), g5 28 (by decide)]
              · rw [(z6 j (by omega)).2.2, g12 29 (by decide), g11 29 (by decide), hm9, gp_u, if_neg (by omega), g7 29 (by decide), g5 29 (by decide)]
              · cases k' with
                | zero =>
                  have y := z6 c (by omega)
                  refine ⟨?_, ?_, ?_⟩
                  · show M'.1 27 c = gp_kI (X i)
                    rw [y.1, g12 27 (by decide), g11 27 (by decide), g9 27 (by decide), g7 27 (by decide), hm5, gp_u, if_pos ⟨rfl, rfl⟩, kq]
                  · show M'.1 28 c = X (i + 1) - nI 48
                    rw [y.2.1, g12 28 (by decide), g11 28 (by decide), g9 28 (by decide), hm7, gp_u, if_pos ⟨rfl, rfl⟩]
                  · show M'.1 29 c = _
                    rw [y.2.2, g12 29 (by decide), g11 29 (by decide), hm9, gp_u, if_pos ⟨rfl, rfl⟩, hv]
                    rfl
                | succ k' =>
                  have y := z7 k' (by simpa using hk')
                  rw [show c + (k' + 1) = c + 1 + k' by omega]
                  exact y
              · rw [z8 q hq, List.length_cons, show c + ((gp_prs X z f' (i + 3) (c + 1)).2.length + 1) = c + 1 + (gp_prs X z f' (i + 3) (c + 1)).2.length by omega]
            · exfalso
              rw [gp_prs] at e9
              simp only [q, q2, q3, c1, c2, c3, if_true, if_false, not_true, not_false_iff, and_self] at e9
              exact gp_ne9 (by omega) e9
          · exfalso
            rw [gp_prs] at e9
            simp only [q, q2, q3, c1, c2, if_true, if_false, not_false_iff] at e9
            exact gp_ne9 (by omega) e9
