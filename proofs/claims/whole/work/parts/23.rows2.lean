/-! PURE: rows, on -/
theorem gp_row.fr {m m' : gn_M} (h : gp_row m) (f : ∀ k, (k = 1 ∨ k = 3 ∨ (10 ≤ k ∧ k ≤ 15) ∨ k = 40 ∨ k = 41) → m'.1 k = m.1 k) : gp_row m' := h.cg (by rw [f 1 (by omega)]) (f 3 (by omega)) (f 40 (by omega)) (f 41 (by omega)) (fun r hr => f _ (by omega))
theorem gp_txt.fr {m m' : gn_M} (h : gp_txt m) (f : ∀ k, (k = 4 ∨ k = 6 ∨ (16 ≤ k ∧ k ≤ 19) ∨ k = 42 ∨ k = 43) → m'.1 k = m.1 k) : gp_txt m' := h.cg (by rw [f 4 (by omega)]) (f 6 (by omega)) (f 42 (by omega)) (f 43 (by omega)) (fun r hr => f _ (by omega))
theorem gp_gate.fr {m m' : gn_M} (h : gp_gate m) (f : ∀ k, (k = 7 ∨ (20 ≤ k ∧ k ≤ 23) ∨ (27 ≤ k ∧ k ≤ 32) ∨ (45 ≤ k ∧ k ≤ 46) ∨ (48 ≤ k ∧ k ≤ 50)) → m'.1 k = m.1 k) (h1 : m'.1 38 10 = m.1 38 10) (h2 : m'.1 38 16 = m.1 38 16) : gp_gate m' :=
  h.cg (f 7 (by omega)) h1 h2 (fun p hp => f _ (by omega)) (f 23 (by omega)) (f 27 (by omega)) (f 28 (by omega)) (f 29 (by omega)) (f 30 (by omega)) (f 31 (by omega)) (f 32 (by omega)) (fun i _ => by rw [f 45 (by omega)]) (fun i _ => by rw [f 46 (by omega)]) (f 48 (by omega)) (f 49 (by omega)) (f 50 (by omega))
def gp_rg (m : gn_M) (k lo n : Nat) (x : Int32) : gn_M := (fun a b => if a = k ∧ lo ≤ b ∧ b < lo + n then x else m.1 a b, m.2)
theorem gp_rg_0 {m : gn_M} {k lo : Nat} {x : Int32} : gp_rg m k lo 0 x = m := by
  refine Prod.ext (funext fun a => funext fun b => ?_) rfl
  simp only [gp_rg]
  rw [if_neg (by omega)]
theorem gp_rg_s {m : gn_M} {k lo i : Nat} {x : Int32} : gn_up (gp_rg m k lo i x) k (lo + i) x = gp_rg m k lo (i + 1) x := by
  refine Prod.ext (funext fun a => funext fun b => ?_) rfl
  simp only [gp_rg, gn_up]
  by_cases h : a = k
  · by_cases h2 : b = lo + i
    · rw [if_pos ⟨h, h2⟩, if_pos (by omega)]
    · rw [if_neg (by omega)]
      by_cases h3 : lo ≤ b ∧ b < lo + i
      · rw [if_pos ⟨h, h3⟩, if_pos (by omega)]
      · rw [if_neg (by omega), if_neg (by omega)]
  · rw [if_neg (by omega), if_neg (by omega), if_neg (by omega)]
theorem gp_rg_ne {m : gn_M} {k lo n a : Nat} {x : Int32} (h : a ≠ k) : (gp_rg m k lo n x).1 a = m.1 a := by
  funext b
  simp only [gp_rg]
  rw [if_neg (by omega)]
theorem gp_rg_in {m : gn_M} {k lo n b : Nat} {x : Int32} (h1 : lo ≤ b) (h2 : b < lo + n) : (gp_rg m k lo n x).1 k b = x := if_pos ⟨rfl, h1, h2⟩
theorem gp_rg_out {m : gn_M} {k lo n b : Nat} {x : Int32} (h1 : b < lo ∨ lo + n ≤ b) : (gp_rg m k lo n x).1 k b = m.1 k b := by
  simp only [gp_rg]
  rw [if_neg (by omega)]
theorem gp_fill {n : Nat} {m : gn_M} {k len : Nat} {x : Int32} (hn : len < n) (hl : len < 2147483648) : f_J7_fill_53178 n m k len x = some (gp_rg m k 0 len x) := by
  unfold f_J7_fill_53178
  refine gp_lp0 (Lf := fun f i mm => L_J7_fill_53178_5 n k len x (Int32.ofNat len) (fun m2 => some m2) f (nI i) mm) (N := len) (A := fun i => gp_rg m k 0 i x) (fun f i hi => ?_) (fun f => ?_) hn |> fun h => by rw [gp_rg_0] at h; exact h
  · show L_J7_fill_53178_5 n k len x (nI len) _ (f + 1) (nI i) _ = _
    rw [L_J7_fill_53178_5]
    simp (disch := omega) only [gp_lit, gp_lt, hi, if_true, gp_wr, nI_add]
    have e := gp_rg_s (m := m) (k := k) (lo := 0) (i := i) (x := x)
    rw [Nat.zero_add] at e
    rw [e]
    rfl
  · show L_J7_fill_53178_5 n k len x (nI len) _ (f + 1) (nI len) _ = _
    rw [L_J7_fill_53178_5]
    simp (disch := omega) [gp_lt]
theorem gp_num.told {m : gn_M} (h : gp_num m) {m' : gn_M} {v : Int32} (e1 : m'.1 38 0 = m.1 38 0) (e2 : m'.1 0 9 = m.1 0 9) (e3 : m'.1 38 2 = v) (e4 : m'.1 0 10 = v) (e5 : m'.2 = m.2) (e6 : m'.1 39 = m.1 39) (e7 : m'.1 26 = m.1 26) : gp_num m' := by
  obtain ⟨a1, a2, a3, a4, a5⟩ := h
  exact ⟨by rw [e1, e2]; exact a1, by rw [e3, e4], by rw [e5]; exact a3, by rw [e5]; exact a4, fun f hf => by rw [e6, e7]; exact a5 f hf⟩
theorem gp_num.fr {m : gn_M} (h : gp_num m) {m' : gn_M} (e1 : m'.1 38 0 = m.1 38 0) (e2 : m'.1 0 9 = m.1 0 9) (e3 : m'.1 38 2 = m.1 38 2) (e4 : m'.1 0 10 = m.1 0 10) (e5 : m'.2 = m.2) (e6 : m'.1 39 = m.1 39) (e7 : m'.1 26 = m.1 26) : gp_num m' := by
  obtain ⟨a1, a2, a3, a4, a5⟩ := h
  exact ⟨by rw [e1, e2]; exact a1, by rw [e3, e4]; exact a2, by rw [e5]; exact a3, by rw [e5]; exact a4, fun f hf => by rw [e6, e7]; exact a5 f hf⟩
theorem op_row {n : Nat} (hn : 5000 ≤ n) {m : gn_M} (h : gp_rel m) (a b : Int32) : ∃ r m1 m2, f_X3_row n m a b = some (r, m1) ∧ f_X4_row n m1 a b = some (r, m2) ∧ gp_rel m2 := by
  rcases gp_rc h.1 a with ⟨q1, q2⟩ | ⟨r, hr, rfl, q1, q2, -⟩
  · exact ⟨-1, m, m, by simp [f_X3_row, f_X3_make_r, q1, gp_lit], by simp [f_X4_row, q2, gp_lit], h⟩
  · have h40 := h.1.1
    have q1 : ∀ m', f_X2_numbers_r m' (nI r) = some 1 := q1
    have q2 : f_X4_isRow (nI r) = some 1 := q2
    by_cases c1 : (40 : Int32) < b
    · exact ⟨-1, m, m, by simp [f_X3_row, f_X3_make_r, q1, h40, c1], by simp [f_X4_row, q2, c1], h⟩
    · by_cases c2 : b < 0
      · obtain ⟨m2, e2, h2⟩ := gp_both h (f := 5) (by decide)
        have f5 : f_X3_found m 5 = some (-3, gp_fc m 5) := gp_found (by decide)
        have e2 : f_X4_find (gp_fc m 5) 5 = some (-3, m2) := e2
        exact ⟨-3, gp_fc m 5, m2, by simp [f_X3_row, f_X3_make_r, q1, h40, c1, c2, f5], by simp [f_X4_row, q2, c1, c2, e2], h2⟩
      · obtain ⟨s, hs, rfl⟩ := nI_of c2
        have hs40 : s ≤ 40 := by
          have : ¬ nI 40 < nI s := c1
          rw [gp_lt (by decide) (by omega)] at this
          omega
        refine ⟨nI s, gn_up (gp_rg m (10 + r) 0 40 0) 3 r (nI s), gp_rg (gn_up (gn_up (gp_rg m (10 + r) 0 40 0) 3 r (nI s)) 40 r (nI s)) 41 (40 * r) 40 0, ?_, ?_, ?_⟩
        · simp (disch := omega) [f_X3_row, f_X3_make_r, q1, h40, c1, c2, f_X2_spread_r, gp_ra, gp_fill, gp_wr]
        · have key : L_X4_row_34 n (nI r) (nI s) (fun m5 => some (nI s, m5)) n 0 (gn_up (gn_up (gp_rg m (10 + r) 0 40 0) 3 r (nI s)) 40 r (nI s)) = some (nI s, gp_rg (gn_up (gn_up (gp_rg m (10 + r) 0 40 0) 3 r (nI s)) 40 r (nI s)) 41 (40 * r) 40 0) := by
            generalize (gn_up (gn_up (gp_rg m (10 + r) 0 40 0) 3 r (nI s)) 40 r (nI s)) = M
            refine gp_lp0 (Lf := fun f i mm => L_X4_row_34 n (nI r) (nI s) (fun m5 => some (nI s, m5)) f (nI i) mm) (N := 40) (A := fun i => gp_rg M 41 (40 * r) i 0) (fun f i hi => ?_) (fun f => ?_) (by omega) |> fun h => by rw [gp_rg_0] at h; exact h
            · show L_X4_row_34 n (nI r) (nI s) _ (f + 1) (nI i) _ = _
              rw [L_X4_row_34]
              simp (disch := omega) only [gp_lit, gp_lt, hi, if_true, nI_add, pk_mul, gp_wr]
              rw [← gp_rg_s]
            · show L_X4_row_34 n (nI r) (nI s) _ (f + 1) (nI 40) _ = _
              rw [L_X4_row_34]
              simp (disch := omega) [gp_lit, gp_lt]
          simp (disch := omega) [f_X4_row, q2, c1, c2, gp_wr]
          exact key
        · obtain ⟨h1, h2, h3, h4⟩ := h
          refine ⟨⟨?_, fun r' hr' => ?_⟩, h2.fr (fun k hk => ?_), h3.fr ?_ ?_ ?_ ?_ rfl ?_ ?_, h4.fr (fun k hk => ?_) ?_ ?_⟩
          · simp (disch := omega) only [gp_rg_ne, gp_une]; exact h1.1
          · obtain ⟨k1, k2, k3⟩ := h1.2 r' hr'
            by_cases e : r' = r
            · subst e
              refine ⟨?_, Or.inr ⟨s, hs40, ?_⟩, fun i hi => ?_⟩
              · simp (disch := omega) [gp_rg_ne, gp_u, gp_une]
              · simp (disch := omega) [gp_rg_ne, gp_u, gp_une]
              · rw [gp_rg_in (by omega) (by omega)]
                simp (disch := omega) only [gp_rg_ne, gp_une]
                rw [gp_rg_in (by omega) (by omega)]
            · refine ⟨?_, ?_, fun i hi => ?_⟩
              · simp (disch := omega) [gp_rg_ne, gp_u, gp_une, e, k1]
              · simp (disch := omega) [gp_rg_ne, gp_u, gp_une, e]; exact k2
              · rw [gp_rg_out (by omega)]
                simp (disch := omega) only [gp_rg_ne, gp_une]
                exact k3 i hi
          all_goals simp (disch := omega) only [gp_rg_ne, gp_une]
