/-! PURE: meet, card, reads, go -/
theorem gp_curr {m : gn_M} {g d : Nat} {K Wt T0 ds : Nat → Nat} (hgf : gp_gf g K Wt T0 m) (hdd : gp_dd g K T0 d ds m) {s : gp_St} (hs : s = gp_rp K T0 ds d) : gp_ok g d K Wt s.1 s.2.1 s.2.2.1 s.2.2.2 ∧ gp_cC m g d K Wt s.1 s.2.1 s.2.2.1 s.2.2.2 ∧ gp_cM m g d K Wt s.1 s.2.1 s.2.2.1 s.2.2.2 := by
  obtain ⟨a1, a2, a3, a4, a5⟩ := hgf
  obtain ⟨b1, b2, b3, b4, b5, b6, b7⟩ := hdd
  have so := gp_rp_ok (K := K) (T0 := T0) (ds := ds) (n := d) (fun i hi => ⟨(a4 i hi).2.2.2.2.2.2.1, (a4 i hi).2.2.2.2.2.2.2.1⟩) (fun k hk => (b5 k hk).1) d (Nat.le_refl _)
  have c6 := b7 d (Nat.le_refl _)
  have hg : g ≤ 7 := by rcases a1 with q | q <;> omega
  rw [← hs] at so b6 c6
  refine ⟨⟨a1, b1, fun i hi => ⟨(a4 i hi).1, (a4 i hi).2.2.2.1, so.1 i hi⟩, so.2.1, so.2.2.2, so.2.2.1⟩, ⟨⟨a2, b3, ?_, ?_, ?_⟩, fun i hi => ⟨(a4 i hi).2.1, (a4 i hi).2.2.2.2.1, ?_⟩, a5⟩, ⟨⟨a3, b4, c6.2.1, c6.2.2.1, c6.2.2.2⟩, fun i hi => ⟨(a4 i hi).2.2.1, (a4 i hi).2.2.2.2.2.1, c6.1 i hi⟩⟩⟩
  · have := b6.2.1; simpa using this
  · have := b6.2.2.1; simpa using this
  · have := b6.2.2.2; simpa using this
  · have := b6.1 i hi
    simpa [show i < 7 by omega] using this
def gp_fM (m1 m2 : gn_M) (d : Nat) : Prop := (∀ c, c ≠ 38 → c ≠ 48 → m2.1 c = m1.1 c) ∧ (∀ k, k < 10 * (d + 1) → m2.1 48 k = m1.1 48 k) ∧ m2.1 38 0 = m1.1 38 0 ∧ m2.1 38 2 = m1.1 38 2 ∧ m2.2 = m1.2
theorem gp_fM.bg {m : gn_M} {d : Nat} : gp_fM m (gp_bg m d) d := by
  refine ⟨fun c h h' => gp_bgo h' h, fun k hk => gp_bgl hk, ?_, ?_, rfl⟩
  · unfold gp_bg; rw [gp_u, if_neg (by decide), gp_bgf (by decide)]
  · unfold gp_bg; rw [gp_u, if_neg (by decide), gp_bgf (by decide)]
theorem gp_fM.up {m m2 : gn_M} {d i : Nat} {x : Int32} (h : gp_fM m m2 d) : gp_fM m (gn_up m2 48 (10 * (d + 1) + i) x) d := by
  refine ⟨fun c h1 h2 => ?_, fun k hk => ?_, ?_, ?_, ?_⟩
  · rw [gp_une h2]; exact h.1 c h1 h2
  · rw [gp_u, if_neg (by omega)]; exact h.2.1 k hk
  · rw [gp_une (by decide)]; exact h.2.2.1
  · rw [gp_une (by decide)]; exact h.2.2.2.1
  · exact h.2.2.2.2
theorem gp_deed {m m1 m2 : gn_M} {g d w i j : Nat} {K Wt T0 ds : Nat → Nat} {s s' : gp_St} (h : gp_rel m) (hgf : gp_gf g K Wt T0 m) (hdd : gp_dd g K T0 d ds m) (hkp : gp_kp g K T0 m) (hs : s = gp_rp K T0 ds d) (hd : d < 40) (hi : i < g) (hj : j < g) (hw : w ≤ 4) (hij : w = 1 → i ≠ j) (e' : s' = gp_ap K w i j s) (hC : gp_cC m1 g (d + 1) K Wt s'.1 s'.2.1 s'.2.2.1 s'.2.2.2) (hA : gp_fA m m1 d (100 * w + 10 * i + j)) (hM : gp_cM m2 g (d + 1) K Wt s'.1 s'.2.1 s'.2.2.1 s'.2.2.2) (hF : gp_fM m1 m2 d) : gp_rel m2 := by
  have hg : g ≤ 7 := by rcases hgf.1 with q | q <;> omega
  obtain ⟨x1, x2, x3, x4⟩ := hA
  obtain ⟨y1, y2, y3, y4, y5⟩ := hF
  have fr : ∀ c, c ≠ 7 → c ≠ 30 → c ≠ 32 → c ≠ 38 → c ≠ 48 → m2.1 c = m.1 c := fun c h1 h2 h3 h4 h5 => by rw [y1 c h4 h5]; exact x3 c h1 h2 h3
  have p1 : (100 * w + 10 * i + j) / 100 = w := by omega
  have p2 : (100 * w + 10 * i + j) / 10 % 10 = i := by omega
  have p3 : (100 * w + 10 * i + j) % 10 = j := by omega
  refine ⟨h.1.fr (fun k hk => fr k (by omega) (by omega) (by omega) (by omega) (by omega)), h.2.1.fr (fun k hk => fr k (by omega) (by omega) (by omega) (by omega) (by omega)), h.2.2.1.fr ?_ ?_ ?_ ?_ ?_ ?_ ?_, gp_nx (c := 100 * w + 10 * i + j) hgf hdd hkp hd ?_ ?_ ?_ hM ?_ ?_ ?_ fr⟩
  · rw [y3, x3 38 (by decide) (by decide) (by decide)]
  · rw [fr 0 (by decide) (by decide) (by decide) (by decide) (by decide)]
  · rw [y4, x3 38 (by decide) (by decide) (by decide)]
  · rw [fr 0 (by decide) (by decide) (by decide) (by decide) (by decide)]
  · rw [y5, x4]
  · rw [fr 39 (by decide) (by decide) (by decide) (by decide) (by decide)]
  · rw [fr 26 (by decide) (by decide) (by decide) (by decide) (by decide)]
  · exact ⟨by omega, by omega, by omega, fun q => by rw [p2, p3]; exact hij (by omega)⟩
  · rw [p1, p2, p3, ← hs]; exact e'
  · exact hC.fr (y1 7 (by decide) (by decide)) (y1 27 (by decide) (by decide)) (y1 28 (by decide) (by decide)) (y1 30 (by decide) (by decide)) (y1 31 (by decide) (by decide))
  · rw [y1 32 (by decide) (by decide)]; exact x1
  · intro k hk; rw [y1 32 (by decide) (by decide)]; exact x2 k hk
  · intro k hk; rw [y2 k hk, x3 48 (by decide) (by decide) (by decide)]
/-- how much is told in all -/
def gp_sm (T : Nat → Nat) : Nat → Nat
  | 0 => 0
  | x + 1 => gp_sm T x + gp_po (T x)
theorem gp_sm_up {T : Nat → Nat} {i t : Nat} : ∀ {g : Nat}, (i < g → gp_sm (fun x => if x = i then t else T x) g + gp_po (T i) = gp_sm T g + gp_po t) ∧ (g ≤ i → gp_sm (fun x => if x = i then t else T x) g = gp_sm T g)
  | 0 => ⟨fun h => by omega, fun _ => rfl⟩
  | g + 1 => by
    have ih := gp_sm_up (T := T) (i := i) (t := t) (g := g)
    constructor
    · intro h
      rw [gp_sm, gp_sm]
      by_cases e : g = i
      · rw [if_pos e, ih.2 (by omega), e]; omega
      · rw [if_neg e]
        have := ih.1 (by omega)
        omega
    · intro h
      rw [gp_sm, gp_sm, if_neg (by omega), ih.2 (by omega)]
section GPE
variable {m : gn_M} {g d : Nat} {K Wt T : Nat → Nat} {G l S : Nat}
theorem gp_tls {n : Nat} (hn : 5000 ≤ n) (h : gp_cC m g d K Wt T G l S) (o : gp_ok g d K Wt T G l S) : f_X0_tellings n m = some (nI (gp_sm T g)) := by
  have hg := o.g7
  have h7 := gp_p7 hg
  unfold f_X0_tellings
  refine gp_lp0 (Lf := fun f j (acc : Int32) => L_X0_tellings_4 n m (fun e => some e) f acc (nI j)) (N := g) (A := fun j => nI (gp_sm T j)) (fun f j hj => ?_) (fun f => ?_) (by omega)
  · show L_X0_tellings_4 n m _ (f + 1) _ (nI j) = L_X0_tellings_4 n m _ f (nI (gp_sm T (j + 1))) (nI (j + 1))
    rw [L_X0_tellings_4, gp_sm]
    have b := gp_bc (T j) (by have := (o.2.2.1 j hj).2.2.1; omega)
    simp (disch := omega) only [gp_lit, h.1.1, gp_lt, hj, if_true, gp_rd, (h.2.1 j hj).2.2, b, Option.bind_some, nI_add]
  · show L_X0_tellings_4 n m _ (f + 1) _ (nI g) = _
    rw [L_X0_tellings_4]
    simp (disch := omega) only [gp_lit, h.1.1, gp_lt, Nat.lt_irrefl, if_false]
theorem gp_tell4 {n : Nat} (hn : 5000 ≤ n) (h : gp_cM m g d K Wt T G l S) (o : gp_ok g d K Wt T G l S) {i s : Nat} (hi : i < g) (hs : s < 128) : f_X4_tell n m (nI i) (nI s) = some (nI (gp_po (T i ||| gp_df s (2 ^ i))) - nI (gp_po (T i)), gn_up m 48 (10 * d + i) (nI (T i ||| gp_df s (2 ^ i)))) := by
  have hg := o.g7
  have h7 := gp_p7 hg
  have hd := o.2.1
  have ti := (o.2.2.1 i hi).2.2.1
  have e1 := gp_bits (s := T i) hn (by omega)
  have l1 : T i ||| gp_df s (2 ^ i) < 2 ^ 7 := gp_or_lt (show T i < 2 ^ 7 by omega) (gp_df_lt (show s < 2 ^ 7 by omega))
  have e2 := gp_bits (s := T i ||| gp_df s (2 ^ i)) hn (by omega)
  have e3 : (gn_up m 48 (10 * d + i) (nI (T i ||| gp_df s (2 ^ i)))).1 48 (10 * d + i) = nI (T i ||| gp_df s (2 ^ i)) := by rw [gp_u, if_pos ⟨rfl, rfl⟩]
  simp (disch := omega) only [f_X4_tell, gp_lit, h.1.2.1, pk_mul, nI_add, Nat.add_zero, gp_rd, (h.2 i hi).2.2, e1, Option.bind_some, gp_sh, gp_nt, gp_or, gp_wr, e3, e2]
theorem gp_ig (h : gp_cM m g d K Wt T G l S) (hg : g ≤ 7) {i : Nat} (hi : i < g) : f_X4_isGoer m (nI i) = some (nI 1) := by
  rcases gp_isG h hg (nI i) with ⟨b1, b2⟩ | ⟨j, hj, e, b1⟩
  · rcases b2 with q | q
    · rw [gp_nn (by omega)] at q; exact q.elim
    · rw [Int32.lt_iff_toInt_lt, gp_subI (by omega) (by omega), nI_toInt (by omega)] at q
      omega
  · rw [e]; exact b1
theorem gp_aM {m1 : gn_M} {c : Nat} (h : gp_cM m g d K Wt T G l S) (z : gp_fA m m1 d c) : gp_cM m1 g d K Wt T G l S := h.fr (by rw [z.2.2.1 38 (by decide) (by decide) (by decide)]) (by rw [z.2.2.1 38 (by decide) (by decide) (by decide)]) (z.2.2.1 45 (by decide) (by decide) (by decide)) (z.2.2.1 46 (by decide) (by decide) (by decide)) (z.2.2.1 48 (by decide) (by decide) (by decide))
theorem gp_spare (h : gp_cC m g d K Wt T G l S) (hd : d ≤ 40) : f_X0_spare m = some (nI (40 - d)) := by
  unfold f_X0_spare
  rw [h.1.2.1]
  congr 1
  show nI 40 - nI d = nI (40 - d)
  have e : nI (40 - d) + nI d = nI 40 := by rw [nI_add, show 40 - d + d = 40 by omega]
  grind
end GPE
theorem op_go {n : Nat} (hn : 5000 ≤ n) {m : gn_M} (h : gp_rel m) (a : Int32) : ∃ r m1 m2, f_X3_go m a = some (r, m1) ∧ f_X4_go n m1 a = some (r, m2) ∧ gp_rel m2 := by
  obtain ⟨g, K, Wt, T0, d, ds, hgf, hdd, hkp⟩ := h.2.2.2
  obtain ⟨s, hs⟩ : ∃ s, s = gp_rp K T0 ds d := ⟨_, rfl⟩
  obtain ⟨o, hC, hM⟩ := gp_curr hgf hdd hs
  have hg := o.g7
  have h7 := gp_p7 hg
  have hd := o.2.1
  rcases gp_gc hC hM hg a with ⟨q1, q2⟩ | ⟨i, hi, rfl, q1, q2⟩
  · exact ⟨-1, m, m, by simp [f_X3_go, q1, gp_lit], by simp [f_X4_go, q2, gp_lit], h⟩
  · have e1 := gp_opC hC o hi
    have e2 := gp_opM hn hM o hi
    have sp := gp_spare hC hd
    by_cases hb : gp_op g K s.1 s.2.1 s.2.2.1 i = true
    · rw [hb] at e1 e2
      simp only [if_true] at e1 e2
      by_cases hd' : d < 40
      · obtain ⟨m1, z1, z2, z3⟩ := gp_addC hC o hd' (w := 4) (i := i) (j := 0) hi (by omega) (by decide) (fun q => by omega)
        have hM1 := gp_aM hM z3
        have e2' := gp_opM hn hM1 o hi
        rw [hb] at e2'
        simp only [if_true] at e2'
        have hB := gp_begin hn hd' hM1.1.2.1
        have hM2 := gp_bgM hM1 hg
        have l1 : s.2.1 ||| 2 ^ i < 2 ^ 7 := gp_or_lt (show s.2.1 < 2 ^ 7 by have := o.2.2.2.1; omega) (Nat.pow_lt_pow_right (by decide) (by omega))
        have c1 := gp_bc (s.2.1 ||| 2 ^ i) (by omega)
        have c2 := gp_bits (s := s.2.1 ||| 2 ^ i) hn (by omega)
        have hM3 := gp_wG hM2 hg (s := s.2.1 ||| 2 ^ i) (i := i) (by omega)
        have n3 := gp_now hM3 (by omega) (j := 7) (by decide)
        rw [hM3.1.2.2.1] at n3
        have o3 : m1.1 7 8 = nI (s.2.1 ||| 2 ^ i) := z2.1.2.2.1
        have u16 : ∀ x, (gn_up (gp_bg m1 d) 48 (10 * (d + 1) + 7) x).1 38 16 = nI (d + 1) := fun x => by rw [gp_une (by decide)]; exact hM2.1.2.1
        refine ⟨nI (gp_po (s.2.1 ||| 2 ^ i)), m1, gn_up (gn_up (gp_bg m1 d) 48 (10 * (d + 1) + 7) (nI (s.2.1 ||| 2 ^ i))) 48 (10 * (d + 1) + 8) (nI i), ?_, ?_, ?_⟩
        · simp (disch := omega) only [f_X3_go, gp_lit, q1, Option.bind_some, gp_eq, e1, sp, gp_lt, if_false, show ¬ 40 - d < 1 by omega, z1, o3, c1, Nat.one_ne_zero]
        · simp (disch := omega) only [f_X4_go, gp_lit, gp_ig hM1 hg hi, Option.bind_some, gp_eq, e2', hM1.1.2.1, if_false, show ¬ d = 40 by omega, hB, Nat.one_ne_zero, f_X4_goNow, hM2.1.2.1, pk_mul, nI_add, gp_rd, hM2.1.2.2.1, gp_sh, gp_or, gp_wr, u16, n3, c2]
        · exact gp_deed h hgf hdd hkp hs hd' hi (show 0 < g by omega) (show 4 ≤ 4 by decide) (fun q => by omega) rfl z2 z3 hM3 (gp_fM.up (gp_fM.up gp_fM.bg))
      · exact ⟨-2, m, m, by simp (disch := omega) [f_X3_go, gp_lit, q1, gp_eq, e1, sp, gp_lt, show 40 - d < 1 by omega], by simp (disch := omega) [f_X4_go, gp_lit, q2, gp_eq, e2, hM.1.2.1, show d = 40 by omega], h⟩
    · simp only [hb] at e1 e2
      exact ⟨-4, m, m, by simp (disch := omega) [f_X3_go, gp_lit, q1, gp_eq, e1], by simp (disch := omega) [f_X4_go, gp_lit, q2, gp_eq, e2], h⟩
theorem gp_rs {m : gn_M} {g d : Nat} {K Wt T : Nat → Nat} {G l S : Nat} (h : gp_cC m g d K Wt T G l S) (o : gp_ok g d K Wt T G l S) {i : Nat} (hi : i < g) : f_X3_refusalAtStone m (nI i) = some (if G.testBit i then -nI 4 else if d < 40 then nI 0 else -nI 2) := by
  have hg := o.g7
  have hd := o.2.1
  have e := gp_waits h o (i := i) (by omega)
  have sp := gp_spare h hd
  by_cases hb : G.testBit i = true
  · simp (disch := omega) [f_X3_refusalAtStone, gp_lit, gp_nb h hg hi, gp_eq, e, hb]
  · by_cases hd' : d < 40
    · simp (disch := omega) [f_X3_refusalAtStone, gp_lit, gp_nb h hg hi, gp_eq, gp_lt, e, hb, sp, hd', show ¬ 40 - d < 1 by omega]
    · simp (disch := omega) [f_X3_refusalAtStone, gp_lit, gp_nb h hg hi, gp_eq, gp_lt, e, hb, sp, hd', show 40 - d < 1 by omega]
theorem gp_m4e : (-nI 4 = nI 0) = False := eq_false (by decide)
theorem gp_m2e : (-nI 2 = nI 0) = False := eq_false (by decide)
theorem op_card {n : Nat} (hn : 5000 ≤ n) {m : gn_M} (h : gp_rel m) (a : Int32) : ∃ r m1 m2, f_X3_card m a = some (r, m1) ∧ f_X4_card n m1 a = some (r, m2) ∧ gp_rel m2 := by
  obtain ⟨g, K, Wt, T0, d, ds, hgf, hdd, hkp⟩ := h.2.2.2
  obtain ⟨s, hs⟩ : ∃ s, s = gp_rp K T0 ds d := ⟨_, rfl⟩
  obtain ⟨o, hC, hM⟩ := gp_curr hgf hdd hs
  have hg := o.g7
  have h7 := gp_p7 hg
  have hd := o.2.1
  rcases gp_gc hC hM hg a with ⟨q1, q2⟩ | ⟨i, hi, rfl, q1, q2⟩
  · exact ⟨-1, m, m, by simp [f_X3_card, f_X3_refusalAtStone, q1, gp_lit, gp_m1e], by simp [f_X4_card, q2, gp_lit], h⟩
  · have e1 := gp_rs hC o hi
    have e2 := gp_thr hM o (i := i) (by omega)
    by_cases hb : s.2.1.testBit i = true
    · simp only [hb, if_true] at e1 e2
      exact ⟨-4, m, m, by simp (disch := omega) [f_X3_card, gp_lit, gp_eq, e1, gp_m4e], by simp (disch := omega) [f_X4_card, gp_lit, q2, gp_eq, e2], h⟩
    · simp only [hb] at e1 e2
      by_cases hd' : d < 40
      · obtain ⟨m1, z1, z2, z3⟩ := gp_addC hC o hd' (w := 2) (i := i) (j := 0) hi (by omega) (by decide) (fun q => by omega)
        have hM1 := gp_aM hM z3
        have e2' := gp_thr hM1 o (i := i) (by omega)
        simp only [hb] at e2'
        have hB := gp_begin hn hd' hM1.1.2.1
        have hM2 := gp_bgM hM1 hg
        have o2 : gp_ok g (d + 1) K Wt s.1 s.2.1 s.2.2.1 s.2.2.2 := ⟨o.1, by omega, o.2.2⟩
        have t2 := gp_tellM hM2 o2 hi
        have hM3 := gp_wS hM2 hg (s := s.2.2.2 ||| gp_tl (K i) i (s.1 i))
        have n3 := gp_now hM3 (by omega) (j := 9) (by decide)
        rw [hM3.1.2.2.2.2] at n3
        have o3 : m1.1 7 10 = nI (s.2.2.2 ||| gp_tl (K i) i (s.1 i)) := z2.1.2.2.2.2
        refine ⟨nI (s.2.2.2 ||| gp_tl (K i) i (s.1 i)), m1, gn_up (gp_bg m1 d) 48 (10 * (d + 1) + 9) (nI (s.2.2.2 ||| gp_tl (K i) i (s.1 i))), ?_, ?_, ?_⟩
        · simp (disch := omega) [f_X3_card, gp_lit, gp_eq, e1, hd', z1, o3]
        · simp (disch := omega) only [f_X4_card, gp_lit, gp_ig hM1 hg hi, Option.bind_some, gp_eq, e2', hM1.1.2.1, if_false, if_true, Bool.false_eq_true, show ¬ d = 40 by omega, hB, Nat.one_ne_zero, hM2.1.2.1, pk_mul, nI_add, gp_rd, hM2.1.2.2.2.2, t2, gp_or, gp_wr, n3]
        · exact gp_deed h hgf hdd hkp hs hd' hi (show 0 < g by omega) (show 2 ≤ 4 by decide) (fun q => by omega) rfl z2 z3 hM3 (gp_fM.up gp_fM.bg)
      · exact ⟨-2, m, m, by simp (disch := omega) [f_X3_card, gp_lit, gp_eq, e1, hd', gp_m2e], by simp (disch := omega) [f_X4_card, gp_lit, q2, gp_eq, e2, hM.1.2.1, show d = 40 by omega], h⟩
theorem op_reads {n : Nat} (hn : 5000 ≤ n) {m : gn_M} (h : gp_rel m) (a : Int32) : ∃ r m1 m2, f_X3_reads n m a = some (r, m1) ∧ f_X4_reads n m1 a = some (r, m2) ∧ gp_rel m2 := by
  obtain ⟨g, K, Wt, T0, d, ds, hgf, hdd, hkp⟩ := h.2.2.2
  obtain ⟨s, hs⟩ : ∃ s, s = gp_rp K T0 ds d := ⟨_, rfl⟩
  obtain ⟨o, hC, hM⟩ := gp_curr hgf hdd hs
  have hg := o.g7
  have h7 := gp_p7 hg
  have hd := o.2.1
  rcases gp_gc hC hM hg a with ⟨q1, q2⟩ | ⟨i, hi, rfl, q1, q2⟩
  · exact ⟨-1, m, m, by simp [f_X3_reads, f_X3_refusalAtStone, q1, gp_lit, gp_m1e], by simp [f_X4_reads, q2, gp_lit], h⟩
  · have e1 := gp_rs hC o hi
    have e2 := gp_thr hM o (i := i) (by omega)
    by_cases hb : s.2.1.testBit i = true
    · simp only [hb, if_true] at e1 e2
      exact ⟨-4, m, m, by simp (disch := omega) [f_X3_reads, gp_lit, gp_eq, e1, gp_m4e], by simp (disch := omega) [f_X4_reads, gp_lit, q2, gp_eq, e2], h⟩
    · simp only [hb] at e1 e2
      by_cases hd' : d < 40
      · obtain ⟨m1, z1, z2, z3⟩ := gp_addC hC o hd' (w := 3) (i := i) (j := 0) hi (by omega) (by decide) (fun q => by omega)
        have hM1 := gp_aM hM z3
        have e2' := gp_thr hM1 o (i := i) (by omega)
        simp only [hb] at e2'
        have hB := gp_begin hn hd' hM1.1.2.1
        have hM2 := gp_bgM hM1 hg
        have o2 : gp_ok g (d + 1) K Wt s.1 s.2.1 s.2.2.1 s.2.2.2 := ⟨o.1, by omega, o.2.2⟩
        have n2 := gp_now hM2 (by omega) (j := 9) (by decide)
        rw [hM2.1.2.2.2.2] at n2
        have t2 := gp_tell4 hn hM2 o2 (i := i) (s := s.2.2.2) hi (by have := o.2.2.2.2.1; omega)
        have hM3 := gp_wT hM2 hg (i := i) (t := s.1 i ||| gp_df s.2.2.2 (2 ^ i)) hi
        have so : gp_so g s := ⟨fun i hi => (o.2.2.1 i hi).2.2, o.2.2.2.1, o.2.2.2.2.2, o.2.2.2.2.1⟩
        have so' := gp_ap_ok (K := K) (w := 3) (i := i) (j := 0) so hi (by omega)
        have o3 : gp_ok g (d + 1) K Wt (gp_ap K 3 i 0 s).1 (gp_ap K 3 i 0 s).2.1 (gp_ap K 3 i 0 s).2.2.1 (gp_ap K 3 i 0 s).2.2.2 := ⟨o.1, by omega, fun i hi => ⟨(o.2.2.1 i hi).1, (o.2.2.1 i hi).2.1, so'.1 i hi⟩, so'.2.1, so'.2.2.2, so'.2.2.1⟩
        have s1 := gp_tls hn hC o
        have s2 := gp_tls hn z2 o3
        have sr : nI (gp_sm (gp_ap K 3 i 0 s).1 g) - nI (gp_sm s.1 g) = nI (gp_po (s.1 i ||| gp_df s.2.2.2 (2 ^ i))) - nI (gp_po (s.1 i)) := gp_sub4 (gp_sm_up.1 hi)
        refine ⟨nI (gp_po (s.1 i ||| gp_df s.2.2.2 (2 ^ i))) - nI (gp_po (s.1 i)), m1, gn_up (gp_bg m1 d) 48 (10 * (d + 1) + i) (nI (s.1 i ||| gp_df s.2.2.2 (2 ^ i))), ?_, ?_, ?_⟩
        · rw [← sr]
          simp (disch := omega) [f_X3_reads, gp_lit, gp_eq, e1, hd', z1, s1, s2]
        · simp (disch := omega) only [f_X4_reads, gp_lit, gp_ig hM1 hg hi, Option.bind_some, gp_eq, e2', hM1.1.2.1, if_false, if_true, Bool.false_eq_true, show ¬ d = 40 by omega, hB, Nat.one_ne_zero, n2, t2]
        · exact gp_deed h hgf hdd hkp hs hd' hi (show 0 < g by omega) (show 3 ≤ 4 by decide) (fun q => by omega) rfl z2 z3 hM3 (gp_fM.up gp_fM.bg)
      · exact ⟨-2, m, m, by simp (disch := omega) [f_X3_reads, gp_lit, gp_eq, e1, hd', gp_m2e], by simp (disch := omega) [f_X4_reads, gp_lit, q2, gp_eq, e2, hM.1.2.1, show d = 40 by omega], h⟩
