/-! PURE: undo, keep, on -/
theorem gp_dec {c : Nat} (h : c < 1000) : nI c / nI 100 = nI (c / 100) ∧ (nI c / nI 10) - (nI c / nI 10) / nI 10 * nI 10 = nI (c / 10 % 10) ∧ nI c - nI c / nI 10 * nI 10 = nI (c % 10) := by
  refine ⟨pk_div (by omega) (by omega) (by omega), ?_, pk_rem (by omega) (by omega) (by omega)⟩
  rw [pk_div (a := c) (by omega) (by omega) (by omega)]
  exact pk_rem (by omega) (by omega) (by omega)
theorem gp_cC_ok {m : gn_M} {g d k : Nat} {K Wt T0 ds : Nat → Nat} (hgf : gp_gf g K Wt T0 m) (hd : ∀ k, k < d → gp_vd g (ds k)) (hk : k ≤ d) (hk' : k ≤ 40) : gp_ok g k K Wt (gp_rp K T0 ds k).1 (gp_rp K T0 ds k).2.1 (gp_rp K T0 ds k).2.2.1 (gp_rp K T0 ds k).2.2.2 := by
  obtain ⟨a1, a2, a3, a4, a5⟩ := hgf
  have so := gp_rp_ok (K := K) (T0 := T0) (ds := ds) (n := d) (fun i hi => ⟨(a4 i hi).2.2.2.2.2.2.1, (a4 i hi).2.2.2.2.2.2.2.1⟩) hd k hk
  exact ⟨a1, hk', fun i hi => ⟨(a4 i hi).1, (a4 i hi).2.2.2.1, so.1 i hi⟩, so.2.1, so.2.2.2, so.2.2.1⟩
/-- how far the deeds are done again -/
def gp_ag (m : gn_M) (p0 g e : Nat) (K Wt T0 es : Nat → Nat) (k : Nat) (M : gn_M) : Prop := gp_cC M g k K Wt (gp_rp K T0 es k).1 (gp_rp K T0 es k).2.1 (gp_rp K T0 es k).2.2.1 (gp_rp K T0 es k).2.2.2 ∧ (∀ j, j < k → M.1 32 j = nI (es j)) ∧ (∀ j, j < e → M.1 p0 j = nI (es j)) ∧ (∀ c, c ≠ 7 → c ≠ 30 → c ≠ 32 → M.1 c = m.1 c) ∧ M.2 = m.2
theorem gp_agS {m M : gn_M} {p0 g e k : Nat} {K Wt T0 es : Nat → Nat} (hgf : gp_gf g K Wt T0 m) (he : e ≤ 40) (hv : ∀ k, k < e → gp_vd g (es k)) (hp : p0 = 32 ∨ (p0 ≠ 7 ∧ p0 ≠ 30 ∧ p0 ≠ 32)) (hk : k < e) (h : gp_ag m p0 g e K Wt T0 es k M) : ∃ M', f_X0_add M (nI (es k / 100)) (nI (es k / 10 % 10)) (nI (es k % 10)) = some M' ∧ gp_ag m p0 g e K Wt T0 es (k + 1) M' := by
  obtain ⟨h1, h2, h3, h4, h5⟩ := h
  have v := hv k hk
  have ok := gp_cC_ok hgf hv (k := k) (by omega) (by omega)
  obtain ⟨M', z1, z2, z3⟩ := gp_addC h1 ok (by omega) v.2.1 v.2.2.1 v.1 v.2.2.2
  have ec : 100 * (es k / 100) + 10 * (es k / 10 % 10) + es k % 10 = es k := by omega
  rw [ec] at z3
  refine ⟨M', z1, z2, fun j hj => ?_, fun j hj => ?_, fun c c1 c2 c3 => ?_, ?_⟩
  · by_cases e : j = k
    · rw [e]; exact z3.1
    · rw [z3.2.1 j e]; exact h2 j (by omega)
  · rcases hp with hp | hp
    · rw [hp]
      by_cases e : j = k
      · rw [e]; exact z3.1
      · rw [z3.2.1 j e, ← hp]; exact h3 j hj
    · rw [z3.2.2.1 p0 hp.1 hp.2.1 hp.2.2]; exact h3 j hj
  · rw [z3.2.2.1 c c1 c2 c3]; exact h4 c c1 c2 c3
  · rw [z3.2.2.2]; exact h5
theorem gp_agL {n : Nat} {m : gn_M} {p0 g e : Nat} {K Wt T0 es : Nat → Nat} (hgf : gp_gf g K Wt T0 m) (he : e ≤ 40) (hv : ∀ k, k < e → gp_vd g (es k)) (hp : p0 = 32 ∨ (p0 ≠ 7 ∧ p0 ≠ 30 ∧ p0 ≠ 32)) : ∀ (r k f : Nat) (M : gn_M), k + r = e → r < f → gp_ag m p0 g e K Wt T0 es k M → ∃ M', L_X0_doAgain_11 n p0 (nI e) (fun m5 => some m5) f (nI k) M = some M' ∧ gp_ag m p0 g e K Wt T0 es e M'
  | 0, k, f + 1, M, hk, hf, h => by
    have hk : k = e := by omega
    refine ⟨M, ?_, by rw [← hk]; exact hk ▸ h⟩
    rw [L_X0_doAgain_11, if_neg (by rw [gp_lt (by omega) (by omega)]; omega)]
  | r + 1, k, f + 1, M, hk, hf, h => by
    obtain ⟨M', z1, z2⟩ := gp_agS hgf he hv hp (k := k) (by omega) h
    obtain ⟨M2, y1, y2⟩ := gp_agL (n := n) hgf he hv hp r (k + 1) f M' (by omega) (by omega) z2
    refine ⟨M2, ?_, y2⟩
    have v := hv k (by omega)
    have dc := gp_dec (c := es k) (by have := v.1; omega)
    rw [L_X0_doAgain_11, if_pos (by rw [gp_lt (by omega) (by omega)]; omega), if_pos (show nI k < (40 : Int32) from (show nI k < nI 40 by rw [gp_lt (by omega) (by omega)]; omega)), gp_rd (by omega) (by omega), h.2.2.1 k (by omega)]
    show (f_X0_add M (nI (es k) / nI 100) ((nI (es k) / nI 10) - (nI (es k) / nI 10) / nI 10 * nI 10) (nI (es k) - nI (es k) / nI 10 * nI 10)).bind _ = _
    rw [dc.1, dc.2.1, dc.2.2, z1, Option.bind_some]
    show L_X0_doAgain_11 n p0 (nI e) _ f (nI k + nI 1) M' = _
    rw [nI_add]
    exact y1
theorem gp_again {n : Nat} (hn : 5000 ≤ n) {m : gn_M} {p0 g e : Nat} {K Wt T0 es : Nat → Nat} (hgf : gp_gf g K Wt T0 m) (he : e ≤ 40) (hv : ∀ k, k < e → gp_vd g (es k)) (hp : p0 = 32 ∨ (p0 ≠ 7 ∧ p0 ≠ 30 ∧ p0 ≠ 32)) (hr : ∀ k, k < e → m.1 p0 k = nI (es k)) : ∃ M', f_X0_doAgain n m p0 (nI e) = some M' ∧ gp_ag m p0 g e K Wt T0 es e M' := by
  have hg : g ≤ 7 := by rcases hgf.1 with q | q <;> omega
  obtain ⟨M, hM⟩ : ∃ M, M = gn_up (gn_up (gn_up (gn_up (gn_cp m 29 0 30 0 7) 7 8 (nI 0)) 7 9 (-nI 9)) 7 10 (nI 0)) 7 7 (nI 0) := ⟨_, rfl⟩
  have fr : ∀ c, c ≠ 7 → c ≠ 30 → M.1 c = m.1 c := fun c h1 h2 => by
    rw [hM, gp_une h1, gp_une h1, gp_une h1, gp_une h1]
    funext b
    simp [gn_cp, h2]
  have f6 : M.1 7 6 = m.1 7 6 := by
    rw [hM, gp_u, if_neg (by decide), gp_u, if_neg (by decide), gp_u, if_neg (by decide), gp_u, if_neg (by decide)]
    simp [gn_cp]
  have f30 : ∀ i, i < 7 → M.1 30 i = m.1 29 i := fun i hi => by
    rw [hM, gp_une (by decide), gp_une (by decide), gp_une (by decide), gp_une (by decide)]
    simp [gn_cp, va_cpy, hi]
  have e0 : f_X0_doAgain n m p0 (nI e) = L_X0_doAgain_11 n p0 (nI e) (fun m5 => some m5) n (nI 0) M := by
    rw [hM]
    simp only [f_X0_doAgain, f_X0_startAnew, gp_lit, gp_ac7, gp_pf, Option.bind_some]
  rw [e0]
  obtain ⟨a1, a2, a3, a4, a5⟩ := id hgf
  refine gp_agL hgf he hv hp e 0 n M (by omega) (by omega) ⟨⟨⟨?_, ?_, ?_, ?_, ?_⟩, fun i hi => ?_, fun c hc => ?_⟩, fun j hj => by omega, fun j hj => ?_, fun c c1 c2 _ => fr c c1 c2, by rw [hM]; rfl⟩
  · rw [f6]; exact a2
  · rw [hM, gp_u, if_pos (by decide)]
  · rw [hM, gp_u, if_neg (by decide), gp_u, if_neg (by decide), gp_u, if_neg (by decide), gp_u, if_pos (by decide)]; rfl
  · rw [hM, gp_u, if_neg (by decide), gp_u, if_neg (by decide), gp_u, if_pos (by decide)]; rfl
  · rw [hM, gp_u, if_neg (by decide), gp_u, if_pos (by decide)]; rfl
  · rw [fr 27 (by decide) (by decide), fr 28 (by decide) (by decide), f30 i (by omega)]
    exact ⟨(a4 i hi).2.1, (a4 i hi).2.2.2.2.1, (a4 i hi).2.2.2.2.2.2.2.2⟩
  · rw [fr 31 (by decide) (by decide)]; exact a5 c hc
  · rw [fr p0 (by omega) (by omega)]; exact hr j hj
/-- what stands after deeds are done again, and the reference has its own -/
theorem gp_agR {m M m2 : gn_M} {p0 g e : Nat} {K Wt T0 es : Nat → Nat} (h : gp_rel m) (hgf : gp_gf g K Wt T0 m) (hkp : gp_kp g K T0 m) (he : e ≤ 40) (h0 : g = 0 → e = 0) (hv : ∀ k, k < e → gp_vd g (es k)) (hA : gp_ag m p0 g e K Wt T0 es e M) (f1 : ∀ c, c ≠ 38 → c ≠ 48 → m2.1 c = M.1 c) (f2 : m2.1 38 16 = nI e) (f3 : m2.1 38 10 = M.1 38 10) (f4 : m2.1 38 0 = M.1 38 0) (f5 : m2.1 38 2 = M.1 38 2) (f6 : m2.2 = M.2) (f48 : ∀ k, k ≤ e → gp_sn g (gp_rp K T0 es k) (fun j => m2.1 48 (10 * k + j))) : gp_rel m2 := by
  obtain ⟨z1, z2, z3, z4, z5⟩ := hA
  have hg : g ≤ 7 := by rcases hgf.1 with q | q <;> omega
  have fr : ∀ c, c ≠ 7 → c ≠ 30 → c ≠ 32 → c ≠ 38 → c ≠ 48 → m2.1 c = m.1 c := fun c h1 h2 h3 h4 h5 => by rw [f1 c h4 h5]; exact z4 c h1 h2 h3
  have z38 := z4 38 (by decide) (by decide) (by decide)
  obtain ⟨a1, a2, a3, a4, a5⟩ := id hgf
  refine ⟨h.1.fr (fun k hk => fr k (by omega) (by omega) (by omega) (by omega) (by omega)), h.2.1.fr (fun k hk => fr k (by omega) (by omega) (by omega) (by omega) (by omega)), h.2.2.1.fr ?_ ?_ ?_ ?_ ?_ ?_ ?_, ⟨g, K, Wt, T0, e, es, ⟨a1, ?_, ?_, fun i hi => ?_, fun c hc => ?_⟩, ⟨he, h0, ?_, f2, fun k hk => ⟨hv k hk, ?_⟩, ⟨fun i hi => ?_, ?_, ?_, ?_⟩, f48⟩, fun p hp => ?_⟩⟩
  · rw [f4, z38]
  · rw [fr 0 (by decide) (by decide) (by decide) (by decide) (by decide)]
  · rw [f5, z38]
  · rw [fr 0 (by decide) (by decide) (by decide) (by decide) (by decide)]
  · rw [f6, z5]
  · rw [fr 39 (by decide) (by decide) (by decide) (by decide) (by decide)]
  · rw [fr 26 (by decide) (by decide) (by decide) (by decide) (by decide)]
  · rw [f1 7 (by decide) (by decide)]; exact z1.1.1
  · rw [f3, z38]; exact a3
  · rw [fr 27 (by decide) (by decide) (by decide) (by decide) (by decide), fr 45 (by decide) (by decide) (by decide) (by decide) (by decide), fr 28 (by decide) (by decide) (by decide) (by decide) (by decide), fr 46 (by decide) (by decide) (by decide) (by decide) (by decide), fr 29 (by decide) (by decide) (by decide) (by decide) (by decide)]
    exact a4 i hi
  · rw [fr 31 (by decide) (by decide) (by decide) (by decide) (by decide)]; exact a5 c hc
  · rw [f1 7 (by decide) (by decide)]; exact z1.1.2.1
  · rw [f1 32 (by decide) (by decide)]; exact z2 k hk
  · simp only [show i < 7 by omega, if_true]; rw [f1 30 (by decide) (by decide)]; exact (z1.2.1 i hi).2.2
  · show m2.1 7 8 = _; rw [f1 7 (by decide) (by decide)]; exact z1.1.2.2.1
  · show m2.1 7 9 = _; rw [f1 7 (by decide) (by decide)]; exact z1.1.2.2.2.1
  · show m2.1 7 10 = _; rw [f1 7 (by decide) (by decide)]; exact z1.1.2.2.2.2
  · rw [fr 50 (by decide) (by decide) (by decide) (by decide) (by decide), fr 23 (by decide) (by decide) (by decide) (by decide) (by decide), fr (20 + p) (by omega) (by omega) (by omega) (by omega) (by omega), fr 49 (by decide) (by decide) (by decide) (by decide) (by decide)]
    exact hkp p hp
theorem op_undo {n : Nat} (hn : 5000 ≤ n) {m : gn_M} (h : gp_rel m) (a : Int32) : ∃ r m1 m2, f_X3_undo n m a = some (r, m1) ∧ f_X4_undo m1 a = some (r, m2) ∧ gp_rel m2 := by
  obtain ⟨g, K, Wt, T0, d, ds, hgf, hdd, hkp⟩ := h.2.2.2
  obtain ⟨b1, b2, b3, b4, b5, b6, b7⟩ := id hdd
  rcases gp_ix a (d + 1) (by omega) with q | ⟨e, he, rfl⟩ | ⟨p1, p2⟩
  · have q : a < nI 0 := q
    exact ⟨-1, m, m, by simp [f_X3_undo, gp_lit, q], by simp (disch := omega) [f_X4_undo, f_X4_in, gp_lit, q], h⟩
  · obtain ⟨M, z1, z2⟩ := gp_again hn hgf (p0 := 32) (e := e) (es := ds) (by omega) (fun k hk => (b5 k (by omega)).1) (Or.inl rfl) (fun k hk => (b5 k (by omega)).2)
    have z38 := z2.2.2.2.1 38 (by decide) (by decide) (by decide)
    have z48 := z2.2.2.2.1 48 (by decide) (by decide) (by decide)
    have b4' : M.1 38 16 = nI d := by rw [z38]; exact b4
    refine ⟨nI d - nI e, M, gn_up M 38 16 (nI e), ?_, ?_, gp_agR h hgf hkp (by omega) (fun q => by have := b2 q; omega) (fun k hk => (b5 k (by omega)).1) z2 (fun c c1 c2 => gp_une c1) ?_ ?_ ?_ ?_ rfl (fun k hk => ?_)⟩
    · simp (disch := omega) [f_X3_undo, gp_lit, gp_lt, b3, show ¬ d < e by omega, z1]
    · simp (disch := omega) [f_X4_undo, f_X4_in, gp_lit, gp_lt, gp_eq, b4', show ¬ d < e by omega, gp_pf]
    · rw [gp_u, if_pos ⟨rfl, rfl⟩]
    · rw [gp_u, if_neg (by decide)]
    · rw [gp_u, if_neg (by decide)]
    · rw [gp_u, if_neg (by decide)]
    · rw [gp_une (by decide), z48]; exact b7 k (by omega)
  · have p1' : ¬ a < nI 0 := p1
    have p3 : nI d < a := by
      obtain ⟨j, hj, rfl⟩ := nI_of p1
      rw [gp_lt (by omega) (by omega)] at p2 ⊢
      omega
    exact ⟨-1, m, m, by simp [f_X3_undo, gp_lit, p1', b3, p3], by simp [f_X4_undo, f_X4_in, gp_lit, p1', b4, p3], h⟩
