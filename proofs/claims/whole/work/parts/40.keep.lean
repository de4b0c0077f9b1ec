/-! PURE: keep, on -/
def gp_cy (m : gn_M) (k0 o0 k1 o1 N : Nat) : gn_M := (fun a b => if a = k1 ∧ o1 ≤ b ∧ b < o1 + N then m.1 k0 (b - o1 + o0) else m.1 a b, m.2)
theorem gp_cyf {m : gn_M} {k0 o0 k1 o1 N k : Nat} (h : k ≠ k1) : (gp_cy m k0 o0 k1 o1 N).1 k = m.1 k := by
  funext b
  simp [gp_cy, h]
theorem gp_cyi {m : gn_M} {k0 o0 k1 o1 N j : Nat} (h : j < N) : (gp_cy m k0 o0 k1 o1 N).1 k1 (o1 + j) = m.1 k0 (o0 + j) := by
  dsimp only [gp_cy]
  rw [if_pos ⟨rfl, by omega, by omega⟩, show o1 + j - o1 + o0 = o0 + j by omega]
theorem gp_cyo {m : gn_M} {k0 o0 k1 o1 N b : Nat} (h : b < o1 ∨ o1 + N ≤ b) : (gp_cy m k0 o0 k1 o1 N).1 k1 b = m.1 k1 b := by
  dsimp only [gp_cy]
  rw [if_neg (by omega)]
theorem gp_cyS {m : gn_M} {k0 o0 k1 o1 j : Nat} : gn_up (gp_cy m k0 o0 k1 o1 j) k1 (o1 + j) (m.1 k0 (o0 + j)) = gp_cy m k0 o0 k1 o1 (j + 1) := by
  refine Prod.ext ?_ rfl
  funext a b
  rw [gp_u]
  dsimp only [gp_cy]
  by_cases e : a = k1 ∧ b = o1 + j
  · rw [if_pos e, if_pos ⟨e.1, by omega, by omega⟩, e.2, show o1 + j - o1 + o0 = o0 + j by omega]
  · rw [if_neg e]
    by_cases e2 : a = k1 ∧ o1 ≤ b ∧ b < o1 + j
    · rw [if_pos e2, if_pos ⟨e2.1, e2.2.1, by omega⟩]
    · rw [if_neg e2, if_neg (fun q => e ⟨q.1, by
        have := fun z => e2 ⟨q.1, q.2.1, z⟩
        omega⟩)]
theorem gp_cy0 {m : gn_M} {k0 o0 k1 o1 : Nat} : gp_cy m k0 o0 k1 o1 0 = m := by
  refine Prod.ext ?_ rfl
  funext a b
  dsimp only [gp_cy]
  rw [if_neg (by omega)]
theorem gp_keepL {n : Nat} (hn : 5000 ≤ n) {m : gn_M} {p : Nat} (hp : p < 3) {k : gn_M → Option (Int32 × gn_M)} : L_X4_keep_23 n (nI p) k n (nI 0) m = k (gp_cy m 48 0 49 (410 * p) 410) := by
  have q := gp_lp0 (Lf := fun f j (M : gn_M) => L_X4_keep_23 n (nI p) k f (nI j) M) (N := 410) (A := fun j => gp_cy m 48 0 49 (410 * p) j) (r := k (gp_cy m 48 0 49 (410 * p) 410)) (fun f j hj => ?_) (fun f => ?_) (f := n) (by omega)
  · rw [gp_cy0] at q
    exact q
  · show L_X4_keep_23 n (nI p) k (f + 1) (nI j) (gp_cy m 48 0 49 (410 * p) j) = L_X4_keep_23 n (nI p) k f (nI (j + 1)) (gp_cy m 48 0 49 (410 * p) (j + 1))
    rw [L_X4_keep_23]
    have r : (gp_cy m 48 0 49 (410 * p) j).1 48 j = m.1 48 (0 + j) := by rw [gp_cyf (by decide), Nat.zero_add]
    simp (disch := omega) only [gp_lit, gp_lt, hj, if_true, nI_add, pk_mul, gp_rd, gp_wr, r, gp_cyS]
  · show L_X4_keep_23 n (nI p) k (f + 1) (nI 410) (gp_cy m 48 0 49 (410 * p) 410) = _
    rw [L_X4_keep_23]
    simp (disch := omega) only [gp_lit, gp_lt, Nat.lt_irrefl, if_false]
theorem gp_onL {n : Nat} (hn : 5000 ≤ n) {m : gn_M} {p : Nat} (hp : p < 3) {k : gn_M → Option (Int32 × gn_M)} : L_X4_on_28 n (nI p) k n (nI 0) m = k (gp_cy m 49 (410 * p) 48 0 410) := by
  have q := gp_lp0 (Lf := fun f j (M : gn_M) => L_X4_on_28 n (nI p) k f (nI j) M) (N := 410) (A := fun j => gp_cy m 49 (410 * p) 48 0 j) (r := k (gp_cy m 49 (410 * p) 48 0 410)) (fun f j hj => ?_) (fun f => ?_) (f := n) (by omega)
  · rw [gp_cy0] at q
    exact q
  · show L_X4_on_28 n (nI p) k (f + 1) (nI j) (gp_cy m 49 (410 * p) 48 0 j) = L_X4_on_28 n (nI p) k f (nI (j + 1)) (gp_cy m 49 (410 * p) 48 0 (j + 1))
    rw [L_X4_on_28]
    have r : (gp_cy m 49 (410 * p) 48 0 j).1 49 (410 * p + j) = m.1 49 (410 * p + j) := by rw [gp_cyf (by decide)]
    have r2 : gn_up (gp_cy m 49 (410 * p) 48 0 j) 48 j (m.1 49 (410 * p + j)) = gp_cy m 49 (410 * p) 48 0 (j + 1) := by
      have := gp_cyS (m := m) (k0 := 49) (o0 := 410 * p) (k1 := 48) (o1 := 0) (j := j)
      rw [Nat.zero_add] at this
      exact this
    simp (disch := omega) only [gp_lit, gp_lt, hj, if_true, nI_add, pk_mul, gp_rd, gp_wr, r, r2]
  · show L_X4_on_28 n (nI p) k (f + 1) (nI 410) (gp_cy m 49 (410 * p) 48 0 410) = _
    rw [L_X4_on_28]
    simp (disch := omega) only [gp_lit, gp_lt, Nat.lt_irrefl, if_false]
theorem op_on {n : Nat} (hn : 5000 ≤ n) {m : gn_M} (h : gp_rel m) (a : Int32) : ∃ r m1 m2, f_X3_on n m a = some (r, m1) ∧ f_X4_on n m1 a = some (r, m2) ∧ gp_rel m2 := by
  obtain ⟨g, K, Wt, T0, d, ds, hgf, hdd, hkp⟩ := h.2.2.2
  rcases gp_ix a 3 (by decide) with q | ⟨p, hp, rfl⟩ | ⟨p1, p2⟩
  · have q : a < nI 0 := q
    exact ⟨-1, m, m, by simp [f_X3_on, gp_lit, q], by simp [f_X4_on, f_X4_in, gp_lit, q], h⟩
  · obtain ⟨c1, c2⟩ := hkp p hp
    rcases c2 with c2 | ⟨e, es, g0, he, ee, hv, hsn⟩
    · have w1 : m.1 23 p = -nI 1 := c2
      have w2 : (gp_fc m 1).1 50 p = -nI 1 := by
        unfold gp_fc
        rw [gp_une (by decide), gp_une (by decide), c1]; exact w1
      refine ⟨-3, gp_fc m 1, gp_fm (gp_fc m 1) 1, ?_, ?_, gp_rel_find h (by decide)⟩
      · simp (disch := omega) only [f_X3_on, gp_lit, gp_nn, gp_lt, Nat.not_lt_zero, hp, if_true, if_false, gp_rd, w1, gp_m1lt, gp_found, Option.bind_some]
      · simp (disch := omega) only [f_X4_on, f_X4_in, gp_lit, gp_nn, gp_lt, Nat.not_lt_zero, gp_eq, show ¬ 2 < p by omega, if_true, if_false, gp_rd, w2, gp_m1lt, gp_find, Option.bind_some, Nat.one_ne_zero]
    · obtain ⟨M, z1, z2⟩ := gp_again hn hgf (p0 := 20 + p) (e := e) (es := es) he (fun k hk => (hv k hk).1) (Or.inr ⟨by omega, by omega, by omega⟩) (fun k hk => (hv k hk).2)
      have z49 := z2.2.2.2.1 49 (by decide) (by decide) (by decide)
      have z50 := z2.2.2.2.1 50 (by decide) (by decide) (by decide)
      have w50 : M.1 50 p = nI e := by rw [z50, c1]; exact ee
      have v50 : (gp_cy M 49 (410 * p) 48 0 410).1 50 p = nI e := by rw [gp_cyf (by decide)]; exact w50
      have y7 : M.1 7 7 = nI e := z2.1.1.2.1
      have y16 : (gn_up (gp_cy M 49 (410 * p) 48 0 410) 38 16 (nI e)).1 38 16 = nI e := by rw [gp_u, if_pos ⟨rfl, rfl⟩]
      refine ⟨nI e, M, gn_up (gp_cy M 49 (410 * p) 48 0 410) 38 16 (nI e), ?_, ?_, gp_agR h hgf hkp he (fun q => absurd q g0) (fun k hk => (hv k hk).1) z2 (fun c x1 x2 => by rw [gp_une x1, gp_cyf x2]) y16 ?_ ?_ ?_ rfl (fun k hk => ?_)⟩
      · simp (disch := omega) only [f_X3_on, gp_lit, gp_nn, gp_lt, Nat.not_lt_zero, hp, if_true, if_false, gp_rd, ee, gp_ra, z1, Option.bind_some, y7]
      · simp (disch := omega) only [f_X4_on, f_X4_in, gp_lit, gp_nn, gp_lt, Nat.not_lt_zero, gp_eq, show ¬ 2 < p by omega, if_true, if_false, gp_rd, w50, Option.bind_some, Nat.one_ne_zero]
        rw [gp_onL hn hp]
        simp (disch := omega) only [gp_rd, v50, gp_pf, y16]
      · rw [gp_u, if_neg (by decide), gp_cyf (by decide)]
      · rw [gp_u, if_neg (by decide), gp_cyf (by decide)]
      · rw [gp_u, if_neg (by decide), gp_cyf (by decide)]
      · have s := hsn k hk
        have hg : g ≤ 7 := by rcases hgf.1 with q | q <;> omega
        have t : ∀ j, j < 10 → (gn_up (gp_cy M 49 (410 * p) 48 0 410) 38 16 (nI e)).1 48 (10 * k + j) = m.1 49 (410 * p + 10 * k + j) := fun j hj => by
          have := gp_cyi (m := M) (k0 := 49) (o0 := 410 * p) (k1 := 48) (o1 := 0) (N := 410) (j := 10 * k + j) (by omega)
          rw [Nat.zero_add] at this
          rw [gp_une (by decide), this, z49, Nat.add_assoc]
        exact ⟨fun i hi => (t i (by omega)).trans (s.1 i hi), (t 7 (by decide)).trans s.2.1, (t 8 (by decide)).trans s.2.2.1, (t 9 (by decide)).trans s.2.2.2⟩
  · have p1' : ¬ a < nI 0 := p1
    have p2' : ¬ a < nI 3 := p2
    have p3 : nI 2 < a := by
      obtain ⟨j, hj, rfl⟩ := nI_of p1
      rw [gp_lt (by omega) (by omega)] at p2 ⊢
      omega
    exact ⟨-1, m, m, by simp [f_X3_on, gp_lit, p1', p2'], by simp [f_X4_on, f_X4_in, gp_lit, p1', p3], h⟩
theorem op_keep {n : Nat} (hn : 5000 ≤ n) {m : gn_M} (h : gp_rel m) (a : Int32) : ∃ r m1 m2, f_X3_keep m a = some (r, m1) ∧ f_X4_keep n m1 a = some (r, m2) ∧ gp_rel m2 := by
  obtain ⟨g, K, Wt, T0, d, ds, hgf, hdd, hkp⟩ := h.2.2.2
  obtain ⟨b1, b2, b3, b4, b5, b6, b7⟩ := id hdd
  obtain ⟨a1, a2, a3, a4, a5⟩ := id hgf
  have hg : g ≤ 7 := by rcases a1 with q | q <;> omega
  rcases gp_ix a 3 (by decide) with q | ⟨p, hp, rfl⟩ | ⟨p1, p2⟩
  · have q : a < nI 0 := q
    exact ⟨-1, m, m, by simp [f_X3_keep, gp_lit, q], by simp [f_X4_keep, f_X4_in, gp_lit, q], h⟩
  · by_cases g0 : g = 0
    · refine ⟨-4, m, m, ?_, ?_, h⟩
      · simp (disch := omega) only [f_X3_keep, gp_lit, gp_lt, Nat.not_lt_zero, hp, if_true, if_false, a2, gp_eq, g0]
      · simp (disch := omega) only [f_X4_keep, f_X4_in, gp_lit, gp_lt, Nat.not_lt_zero, gp_eq, show ¬ 2 < p by omega, if_true, if_false, Option.bind_some, Nat.one_ne_zero, a3, g0]
    · obtain ⟨m1, hm1⟩ : ∃ m1, m1 = gn_up (gn_cp m 32 0 (20 + p) 0 d) 23 p (nI d) := ⟨_, rfl⟩
      have fr1 : ∀ c, c ≠ 20 + p → c ≠ 23 → m1.1 c = m.1 c := fun c c1 c2 => by
        rw [hm1, gp_une c2]
        funext b
        simp [gn_cp, c1]
      have k20 : ∀ k, k < d → m1.1 (20 + p) k = m.1 32 k := fun k hk => by
        rw [hm1, gp_une (by omega)]
        simp [gn_cp, va_cpy, hk]
      have k23 : ∀ x, m1.1 23 x = if x = p then nI d else m.1 23 x := fun x => by
        rw [hm1, gp_u]
        simp [gn_cp, show ¬ (23 : Nat) = 20 + p by omega]
      have w16 : m1.1 38 16 = nI d := by rw [fr1 38 (by omega) (by decide)]; exact b4
      have w10 : m1.1 38 10 = nI g := by rw [fr1 38 (by omega) (by decide)]; exact a3
      have w77 : m1.1 7 7 = nI d := by rw [fr1 7 (by omega) (by decide)]; exact b3
      have v77 : (gn_cp m 32 0 (20 + p) 0 d).1 7 7 = nI d := by
        simp only [gn_cp, show ¬ (7 : Nat) = 20 + p by omega, if_false]; exact b3
      have ac : ∀ (k : gn_M → Option (Int32 × gn_M)), gn_ac m 32 40 (nI 0) (20 + p) 40 (nI 0) (nI d) k = k (gn_cp m 32 0 (20 + p) 0 d) := fun k => by
        unfold gn_ac
        have c0 : (nI 0).toNatClampNeg = 0 := gp_cl (by decide)
        have cd : (nI d).toNatClampNeg = d := gp_cl (by omega)
        rw [c0, cd, if_neg]
        have n0 : ¬ (nI 0 < 0) := by decide
        have nd : ¬ (nI d < 0) := by
          show ¬ (nI d < nI 0)
          rw [gp_nn (by omega)]; exact id
        intro q
        rcases q with q | q | q | q | q
        · exact n0 q
        · exact n0 q
        · exact nd q
        · omega
        · omega
      obtain ⟨m2, hm2⟩ : ∃ m2, m2 = gn_up (gp_cy m1 48 0 49 (410 * p) 410) 50 p (nI d) := ⟨_, rfl⟩
      have u16 : (gp_cy m1 48 0 49 (410 * p) 410).1 38 16 = nI d := by rw [gp_cyf (by decide)]; exact w16
      have v16 : (gn_up (gp_cy m1 48 0 49 (410 * p) 410) 50 p (nI d)).1 38 16 = nI d := by rw [gp_une (by decide)]; exact u16
      have fr2 : ∀ c, c ≠ 49 → c ≠ 50 → m2.1 c = m1.1 c := fun c c1 c2 => by rw [hm2, gp_une c2, gp_cyf c1]
      have fr : ∀ c, c ≠ 20 + p → c ≠ 23 → c ≠ 49 → c ≠ 50 → m2.1 c = m.1 c := fun c c1 c2 c3 c4 => by rw [fr2 c c3 c4, fr1 c c1 c2]
      refine ⟨nI d, m1, m2, ?_, ?_, ?_⟩
      · rw [hm1]
        rw [hm1] at w77
        simp (disch := omega) only [f_X3_keep, gp_lit, gp_lt, Nat.not_lt_zero, hp, if_true, if_false, a2, gp_eq, g0, gp_ra, b3, ac, v77, gp_wr, w77]
      · rw [hm2]
        simp (disch := omega) only [f_X4_keep, f_X4_in, gp_lit, gp_lt, Nat.not_lt_zero, gp_eq, show ¬ 2 < p by omega, if_true, if_false, Option.bind_some, Nat.one_ne_zero, w10, g0]
        rw [gp_keepL hn hp]
        simp (disch := omega) only [u16, gp_wr, v16]
      · refine ⟨h.1.fr (fun k hk => fr k (by omega) (by omega) (by omega) (by omega)), h.2.1.fr (fun k hk => fr k (by omega) (by omega) (by omega) (by omega)), h.2.2.1.fr ?_ ?_ ?_ ?_ ?_ ?_ ?_, ⟨g, K, Wt, T0, d, ds, ⟨a1, ?_, ?_, fun i hi => ?_, fun c hc => ?_⟩, ⟨b1, b2, ?_, ?_, fun k hk => ?_, ?_, fun k hk => ?_⟩, fun p' hp' => ?_⟩⟩
        · rw [fr 38 (by omega) (by decide) (by decide) (by decide)]
        · rw [fr 0 (by omega) (by decide) (by decide) (by decide)]
        · rw [fr 38 (by omega) (by decide) (by decide) (by decide)]
        · rw [fr 0 (by omega) (by decide) (by decide) (by decide)]
        · rw [hm2, hm1]; rfl
        · rw [fr 39 (by omega) (by decide) (by decide) (by decide)]
        · rw [fr 26 (by omega) (by decide) (by decide) (by decide)]
        · rw [fr 7 (by omega) (by decide) (by decide) (by decide)]; exact a2
        · rw [fr 38 (by omega) (by decide) (by decide) (by decide)]; exact a3
        · rw [fr 27 (by omega) (by decide) (by decide) (by decide), fr 45 (by omega) (by decide) (by decide) (by decide), fr 28 (by omega) (by decide) (by decide) (by decide), fr 46 (by omega) (by decide) (by decide) (by decide), fr 29 (by omega) (by decide) (by decide) (by decide)]
          exact a4 i hi
        · rw [fr 31 (by omega) (by decide) (by decide) (by decide)]; exact a5 c hc
        · rw [fr 7 (by omega) (by decide) (by decide) (by decide)]; exact b3
        · rw [fr 38 (by omega) (by decide) (by decide) (by decide)]; exact b4
        · rw [fr 32 (by omega) (by decide) (by decide) (by decide)]; exact b5 k hk
        · rw [fr 30 (by omega) (by decide) (by decide) (by decide), fr 7 (by omega) (by decide) (by decide) (by decide)]; exact b6
        · rw [fr 48 (by omega) (by decide) (by decide) (by decide)]; exact b7 k hk
        · have m50 : m2.1 50 p' = if p' = p then nI d else m.1 50 p' := by
            rw [hm2, gp_u, gp_cyf (by decide), fr1 50 (by omega) (by decide)]
            simp
          have m23 : m2.1 23 p' = if p' = p then nI d else m.1 23 p' := by rw [fr2 23 (by decide) (by decide), k23]
          by_cases e : p' = p
          · rw [m50, m23, if_pos e, if_pos e]
            refine ⟨rfl, Or.inr ⟨d, ds, g0, b1, rfl, fun k hk => ⟨(b5 k hk).1, ?_⟩, fun k hk => ?_⟩⟩
            · rw [e, fr2 (20 + p) (by omega) (by omega), k20 k hk]; exact (b5 k hk).2
            · have s := b7 k hk
              have t : ∀ j, j < 10 → m2.1 49 (410 * p' + 10 * k + j) = m.1 48 (10 * k + j) := fun j hj => by
                have := gp_cyi (m := m1) (k0 := 48) (o0 := 0) (k1 := 49) (o1 := 410 * p) (N := 410) (j := 10 * k + j) (by omega)
                rw [hm2, gp_une (by decide), e, Nat.add_assoc, this, fr1 48 (by omega) (by decide), Nat.zero_add]
              exact ⟨fun i hi => (t i (by omega)).trans (s.1 i hi), (t 7 (by decide)).trans s.2.1, (t 8 (by decide)).trans s.2.2.1, (t 9 (by decide)).trans s.2.2.2⟩
          · rw [m50, m23, if_neg e, if_neg e]
            obtain ⟨c1, c2⟩ := hkp p' hp'
            refine ⟨c1, ?_⟩
            rcases c2 with c2 | ⟨e', es, x0, x1, x2, x3, x4⟩
            · exact Or.inl c2
            · refine Or.inr ⟨e', es, x0, x1, x2, fun k hk => ?_, fun k hk => ?_⟩
              · rw [fr (20 + p') (by omega) (by omega) (by omega) (by omega)]; exact x3 k hk
              · have s := x4 k hk
                have t : ∀ j, j < 10 → m2.1 49 (410 * p' + 10 * k + j) = m.1 49 (410 * p' + 10 * k + j) := fun j hj => by
                  rw [hm2, gp_une (by decide), gp_cyo (by omega), fr1 49 (by omega) (by decide)]
                exact ⟨fun i hi => (t i (by omega)).trans (s.1 i hi), (t 7 (by decide)).trans s.2.1, (t 8 (by decide)).trans s.2.2.1, (t 9 (by decide)).trans s.2.2.2⟩
  · have p1' : ¬ a < nI 0 := p1
    have p2' : ¬ a < nI 3 := p2
    have p3 : nI 2 < a := by
      obtain ⟨j, hj, rfl⟩ := nI_of p1
      rw [gp_lt (by omega) (by omega)] at p2 ⊢
      omega
    exact ⟨-1, m, m, by simp [f_X3_keep, gp_lit, p1', p2'], by simp [f_X4_keep, f_X4_in, gp_lit, p1', p3], h⟩
