/-! PURE: op_lots -/
theorem gp_cmpM {x : Nat} (hx : x < 2 ^ 63) : (lg_cmp (lN x) (2147483647 : Int64) < 0) = (x < 2147483647) := by
  apply propext
  unfold lg_cmp
  have e1 : (lN x > (2147483647 : Int64)) ↔ 2147483647 < x := pk_lLT (a := 2147483647) (b := x) (by decide) hx
  have e2 : (lN x = (2147483647 : Int64)) ↔ x = 2147483647 := pk_lEQ (a := x) (b := 2147483647) hx (by decide)
  by_cases h : 2147483647 < x
  · rw [if_pos (e1.mpr h)]
    exact ⟨fun z => absurd z (by decide), fun z => by omega⟩
  · by_cases h2 : x = 2147483647
    · rw [if_neg (fun z => h (e1.mp z)), if_pos (e2.mpr h2)]
      exact ⟨fun z => absurd z (by decide), fun z => by omega⟩
    · rw [if_neg (fun z => h (e1.mp z)), if_neg (fun z => h2 (e2.mp z))]
      exact ⟨fun _ => by omega, fun _ => by decide⟩
theorem gp_lot_rel {m m1 m2 : gn_M} {g d N x0 : Nat} {K Wt T0 ds : Nat → Nat} {s0 : gp_St} (h : gp_rel m) (hgf : gp_gf g K Wt T0 m) (hdd : gp_dd g K T0 d ds m) (hkp : gp_kp g K T0 m) (hs : s0 = gp_rp K T0 ds d) (g0 : 0 < g) (hg : g ≤ 7) (hN : d + N ≤ 40) (hC : gp_cC m1 g (d + N) K Wt (gp_lsq g K s0 x0 N).1.1 (gp_lsq g K s0 x0 N).1.2.1 (gp_lsq g K s0 x0 N).1.2.2.1 (gp_lsq g K s0 x0 N).1.2.2.2) (fC : gp_lfC m m1 d N (gp_lc g K s0 x0)) (hM : gp_cM m2 g (d + N) K Wt (gp_lsq g K s0 x0 N).1.1 (gp_lsq g K s0 x0 N).1.2.1 (gp_lsq g K s0 x0 N).1.2.2.1 (gp_lsq g K s0 x0 N).1.2.2.2) (fM : gp_lfM m1 m2 g d N (fun q => (gp_lsq g K s0 x0 q).1)) : gp_rel m2 := by
  obtain ⟨h1, h2, h3, h4⟩ := h
  obtain ⟨c1, c2, c3, c4⟩ := fC
  obtain ⟨r1, r2, r3, r4, r5, r6⟩ := fM
  obtain ⟨ds', hds⟩ : ∃ ds' : Nat → Nat, ds' = fun k => if k < d then ds k else gp_lc g K s0 x0 (k - d) := ⟨_, rfl⟩
  have fA : ∀ c, c ≠ 7 → c ≠ 30 → c ≠ 32 → c ≠ 38 → c ≠ 48 → m2.1 c = m.1 c := fun c z1 z2 z3 z4 z5 => (r1 c z4 z5).trans (c1 c z1 z2 z3)
  have rp0 : ∀ k, k ≤ d → gp_rp K T0 ds' k = gp_rp K T0 ds k := fun k hk => gp_rp_cg (fun x hx => by rw [hds]; exact if_pos (by omega))
  have code : ∀ q, ds' (d + q) = gp_lc g K s0 x0 q := fun q => by
    rw [hds]
    dsimp only
    rw [if_neg (by omega), show d + q - d = q by omega]
  have lcd : ∀ q, gp_lc g K s0 x0 q / 100 = gp_lw g K (gp_lsq g K s0 x0 q).1 (gp_x (gp_lsq g K s0 x0 q).2) ∧ gp_lc g K s0 x0 q / 10 % 10 = gp_x (gp_lsq g K s0 x0 q).2 / 8 % g ∧ gp_lc g K s0 x0 q % 10 = gp_x (gp_lsq g K s0 x0 q).2 / 64 % g := by
    intro q
    have l1 : gp_x (gp_lsq g K s0 x0 q).2 / 8 % g < g := Nat.mod_lt _ g0
    have l2 : gp_x (gp_lsq g K s0 x0 q).2 / 64 % g < g := Nat.mod_lt _ g0
    unfold gp_lc
    obtain ⟨i, hi⟩ : ∃ i, i = gp_x (gp_lsq g K s0 x0 q).2 / 8 % g := ⟨_, rfl⟩
    obtain ⟨j, hj⟩ : ∃ j, j = gp_x (gp_lsq g K s0 x0 q).2 / 64 % g := ⟨_, rfl⟩
    rw [← hi] at l1 ⊢
    rw [← hj] at l2 ⊢
    refine ⟨by omega, by omega, by omega⟩
  have rpq : ∀ q, gp_rp K T0 ds' (d + q) = (gp_lsq g K s0 x0 q).1 := by
    intro q
    induction q with
    | zero => rw [Nat.add_zero, rp0 d (Nat.le_refl d), ← hs]; rfl
    | succ q ih =>
      rw [show d + (q + 1) = (d + q) + 1 by omega, gp_rp, ih, code, (lcd q).1, (lcd q).2.1, (lcd q).2.2]
      rfl
  obtain ⟨a1, a2, a3, a4, a5⟩ := hgf
  obtain ⟨b1, b2, b3, b4, b5, b6, b7⟩ := hdd
  have e7 : m2.1 7 = m1.1 7 := r1 7 (by omega) (by omega)
  have e30 : m2.1 30 = m1.1 30 := r1 30 (by omega) (by omega)
  have e32 : m2.1 32 = m1.1 32 := r1 32 (by omega) (by omega)
  refine ⟨h1.fr (fun k hk => fA k (by omega) (by omega) (by omega) (by omega) (by omega)), h2.fr (fun k hk => fA k (by omega) (by omega) (by omega) (by omega) (by omega)), h3.fr ?_ ?_ ?_ ?_ (by rw [r5, c2]) (fA 39 (by omega) (by omega) (by omega) (by omega) (by omega)) (fA 26 (by omega) (by omega) (by omega) (by omega) (by omega)), g, K, Wt, T0, d + N, ds', ⟨a1, ?_, hM.1.1, fun i hi => ?_, fun c hc => ?_⟩, ⟨hN, fun z => by omega, ?_, hM.1.2.1, fun k hk => ?_, ?_, fun k hk => ?_⟩, fun p hp => ?_⟩
  · rw [r3, c1 38 (by omega) (by omega) (by omega)]
  · rw [fA 0 (by omega) (by omega) (by omega) (by omega) (by omega)]
  · rw [r4, c1 38 (by omega) (by omega) (by omega)]
  · rw [fA 0 (by omega) (by omega) (by omega) (by omega) (by omega)]
  · rw [e7]; exact hC.1.1
  · rw [fA 27 (by omega) (by omega) (by omega) (by omega) (by omega), fA 45 (by omega) (by omega) (by omega) (by omega) (by omega), fA 28 (by omega) (by omega) (by omega) (by omega) (by omega), fA 46 (by omega) (by omega) (by omega) (by omega) (by omega), fA 29 (by omega) (by omega) (by omega) (by omega) (by omega)]
    exact a4 i hi
  · rw [fA 31 (by omega) (by omega) (by omega) (by omega) (by omega)]
    exact a5 c hc
  · rw [e7]; exact hC.1.2.1
  · rw [e32]
    by_cases q : k < d
    · rw [c3 k q]
      have : ds' k = ds k := by rw [hds]; exact if_pos q
      rw [this]
      exact b5 k q
    · obtain ⟨x, rfl⟩ : ∃ x, k = d + x := ⟨k - d, by omega⟩
      rw [c4 x (by omega), code]
      refine ⟨⟨?_, ?_, ?_, ?_⟩, rfl⟩
      · rw [(lcd x).1]; exact gp_lw_le
      · rw [(lcd x).2.1]; exact Nat.mod_lt _ g0
      · rw [(lcd x).2.2]; exact Nat.mod_lt _ g0
      · rw [(lcd x).1, (lcd x).2.1, (lcd x).2.2]; exact gp_lw_1
  · rw [rpq, e30, e7]
    refine ⟨fun i hi => ?_, ?_, ?_, ?_⟩
    · dsimp only
      rw [if_pos (by omega)]
      exact (hC.2.1 i hi).2.2
    · exact hC.1.2.2.1
    · exact hC.1.2.2.2.1
    · exact hC.1.2.2.2.2
  · by_cases q : k ≤ d
    · rw [rp0 k q]
      have hb := b7 k q
      have e48 : ∀ j, j < 10 → m2.1 48 (10 * k + j) = m.1 48 (10 * k + j) := fun j hj => by rw [r2 _ (by omega), c1 48 (by omega) (by omega) (by omega)]
      refine ⟨fun i hi => ?_, ?_, ?_, ?_⟩
      · dsimp only; rw [e48 i (by omega)]; exact hb.1 i hi
      · dsimp only; rw [e48 7 (by omega)]; exact hb.2.1
      · dsimp only; rw [e48 8 (by omega)]; exact hb.2.2.1
      · dsimp only; rw [e48 9 (by omega)]; exact hb.2.2.2
    · obtain ⟨x, rfl⟩ : ∃ x, k = d + x := ⟨k - d, by omega⟩
      rw [rpq]
      exact r6 x (by omega)
  · rw [fA 50 (by omega) (by omega) (by omega) (by omega) (by omega), fA 23 (by omega) (by omega) (by omega) (by omega) (by omega), fA 49 (by omega) (by omega) (by omega) (by omega) (by omega), fA (20 + p) (by omega) (by omega) (by omega) (by omega) (by omega)]
    exact hkp p hp
theorem op_lots {n : Nat} (hn : 5000 ≤ n) {m : gn_M} (h : gp_rel m) (a b : Int32) : ∃ r m1 m2, f_X3_lots n m a b = some (r, m1) ∧ f_X4_lots n m1 a b = some (r, m2) ∧ gp_rel m2 := by
  have hbad : (a < (1 : Int32) ∨ (20 : Int32) < a) ∨ ∃ N, 1 ≤ N ∧ N ≤ 20 ∧ a = nI N := by
    rcases gp_ix a 21 (by decide) with q | ⟨j, hj, rfl⟩ | ⟨q1, q2⟩
    · left; left
      exact Int32.lt_trans q (by decide)
    · by_cases j0 : j = 0
      · left; left
        rw [j0]; decide
      · exact Or.inr ⟨j, by omega, by omega, rfl⟩
    · left; right
      obtain ⟨j, hj, rfl⟩ := nI_of q1
      rw [gp_lt (by omega) (by omega)] at q2
      exact (gp_lt (by decide) (by omega)).mpr (show 20 < j by omega)
  rcases hbad with q | ⟨N, N1, N2, rfl⟩
  · refine ⟨-1, m, m, ?_, ?_, h⟩
    · unfold f_X3_lots
      by_cases c : a < (1 : Int32)
      · rw [if_pos c]
      · rw [if_neg c, if_pos (by rcases q with q | q; exact absurd q c; exact q)]
    · unfold f_X4_lots f_X4_in
      by_cases c : a < (1 : Int32)
      · rw [if_pos c]
        rfl
      · rw [if_neg c, if_pos (by rcases q with q | q; exact absurd q c; exact q)]
        rfl
  have i1 : ¬ (nI N < (1 : Int32)) := fun z => by
    have : N < 1 := (gp_lt (by omega) (by decide)).mp z
    omega
  have i2 : ¬ ((20 : Int32) < nI N) := fun z => by
    have : 20 < N := (gp_lt (by decide) (by omega)).mp z
    omega
  have iM : f_X4_in (nI N) (1 : Int32) (20 : Int32) = some (nI 1) := by
    unfold f_X4_in
    rw [if_neg i1, if_neg i2]
    rfl
  have n1 : ¬ (nI 1 = (0 : Int32)) := by decide
  by_cases c1 : b < (1 : Int32)
  · refine ⟨-1, m, m, ?_, ?_, h⟩
    · unfold f_X3_lots
      rw [if_neg i1, if_neg i2, if_pos c1]
    · unfold f_X4_lots
      rw [iM, gp_bs, if_neg n1]
      unfold f_X4_in
      rw [if_pos c1]
      rfl
  have b0 : ¬ b < 0 := fun z => c1 (Int32.lt_trans z (by decide))
  obtain ⟨x0, hx0, rfl⟩ := nI_of b0
  have ex : (nI x0).toInt64 = lN x0 := nI_l (by omega)
  have ecmp := gp_cmpM (x := x0) (by omega)
  by_cases c2 : x0 < 2147483647
  · have c2' : lg_cmp (lN x0) (2147483647 : Int64) < 0 := ecmp ▸ c2
    have i4 : ¬ ((2147483646 : Int32) < nI x0) := fun z => by
      have : 2147483646 < x0 := (gp_lt (by decide) (by omega)).mp z
      omega
    have iM2 : f_X4_in (nI x0) (1 : Int32) (2147483646 : Int32) = some (nI 1) := by
      unfold f_X4_in
      rw [if_neg c1, if_neg i4]
      rfl
    obtain ⟨g, K, Wt, T0, d, ds, hgf, hdd, hkp⟩ := h.2.2.2
    obtain ⟨s, hs⟩ : ∃ s, s = gp_rp K T0 ds d := ⟨_, rfl⟩
    obtain ⟨o, hC, hM⟩ := gp_curr hgf hdd hs
    have hg := o.g7
    have h7 := gp_p7 hg
    have hd := o.2.1
    by_cases g0 : g = 0
    · refine ⟨-4, m, m, ?_, ?_, h⟩
      · unfold f_X3_lots
        rw [if_neg i1, if_neg i2, if_neg c1, ex, if_pos c2', hC.1.1, g0]
        rfl
      · unfold f_X4_lots
        rw [iM, gp_bs, if_neg n1, iM2, gp_bs, if_neg n1, hM.1.1, g0]
        rfl
    have ne0C : ¬ (m.1 7 6 = 0) := by rw [hC.1.1]; exact fun z => g0 ((gp_eq (by omega) (by decide)).mp z)
    have sp := gp_spare hC hd
    by_cases c3 : 40 - d < N
    · have ne0M : ¬ (m.1 38 10 = 0) := by rw [hM.1.1]; exact fun z => g0 ((gp_eq (by omega) (by decide)).mp z)
      refine ⟨-2, m, m, ?_, ?_, h⟩
      · unfold f_X3_lots
        rw [if_neg i1, if_neg i2, if_neg c1, ex, if_pos c2', if_neg ne0C, sp, gp_bs, if_pos ((gp_lt (by omega) (by omega)).mpr c3)]
      · unfold f_X4_lots
        rw [iM, gp_bs, if_neg n1, iM2, gp_bs, if_neg n1, if_neg ne0M, hM.1.2.1, nI_add, if_pos]
        exact (gp_lt (by decide) (by omega)).mpr (show 40 < d + N by omega)
    · have oS : gp_okS g d K Wt s := o
      obtain ⟨m1, ⟨x1, x2⟩, x3⟩ := gp_ltC hn (x0 := x0) (N := N) hC oS (by omega) (by omega) c2 (fun (m3 : gn_M) => (f_J6_bitCount_0f7a4 (m3.1 7 8)).bind (fun x4 => some (x4, m3)))
      have hM1 : gp_cM m1 g d K Wt s.1 s.2.1 s.2.2.1 s.2.2.2 := hM.fr (by rw [x2.1 38 (by omega) (by omega) (by omega)]) (by rw [x2.1 38 (by omega) (by omega) (by omega)]) (x2.1 45 (by omega) (by omega) (by omega)) (x2.1 46 (by omega) (by omega) (by omega)) (x2.1 48 (by omega) (by omega) (by omega))
      obtain ⟨m2, ⟨y1, y2⟩, y3⟩ := gp_ltM hn (x0 := x0) (N := N) hM1 oS (by omega) (by omega) c2 (fun (m5 : gn_M) => (f_X4_now m5 (7 : Int32)).bind (fun x6 => (f_X4_bitsOf n x6).bind (fun x7 => some (x7, m5))))
      have oN := gp_okSq (x0 := x0) oS (by omega) N (by omega)
      obtain ⟨Gn, hGn⟩ : ∃ Gn, Gn = (gp_lsq g K s x0 N).1.2.1 := ⟨_, rfl⟩
      have hGl : Gn < 2 ^ g := by rw [hGn]; exact oN.2.2.2.1
      have bc := gp_bc Gn (by omega)
      have bb := gp_bits (n := n) (s := Gn) hn (by omega)
      have n7 := gp_now y1 (by omega) (j := 7) (by decide)
      rw [y1.1.2.2.1, ← hGn] at n7
      have e78 := x1.1.2.2.1
      rw [← hGn] at e78
      have ne0M : ¬ (m1.1 38 10 = 0) := by rw [hM1.1.1]; exact fun z => g0 ((gp_eq (by omega) (by decide)).mp z)
      refine ⟨nI (gp_po Gn), m1, m2, ?_, ?_, gp_lot_rel h hgf hdd hkp hs (by omega) hg (by omega) x1 x2 y1 y2⟩
      · unfold f_X3_lots
        rw [if_neg i1, if_neg i2, if_neg c1, ex, if_pos c2', if_neg ne0C, sp, gp_bs, if_neg (fun z => c3 ((gp_lt (by omega) (by omega)).mp z))]
        refine Eq.trans x3 ?_
        rw [e78, bc]
        rfl
      · unfold f_X4_lots
        rw [iM, gp_bs, if_neg n1, iM2, gp_bs, if_neg n1, if_neg ne0M, hM1.1.2.1, nI_add, if_neg, ex]
        · refine Eq.trans y3 ?_
          rw [show (7 : Int32) = nI 7 from rfl, n7, gp_bs, bb]
          rfl
        · intro z
          have : 40 < d + N := (gp_lt (by decide) (by omega)).mp z
          omega
  · have c2' : ¬ lg_cmp (lN x0) (2147483647 : Int64) < 0 := by rw [ecmp]; exact c2
    have i4 : ((2147483646 : Int32) < nI x0) := (gp_lt (by decide) (by omega)).mpr (show 2147483646 < x0 by omega)
    refine ⟨-1, m, m, ?_, ?_, h⟩
    · unfold f_X3_lots
      rw [if_neg i1, if_neg i2, if_neg c1, ex, if_neg c2']
    · unfold f_X4_lots
      rw [iM, gp_bs, if_neg n1]
      unfold f_X4_in
      rw [if_neg c1, if_pos i4]
      rfl
