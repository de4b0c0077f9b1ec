/-! PURE: the reference's ways: all of them; how many orders, how many at most -/
section GPX
variable {m m' : gn_M} {g d : Nat} {K Wt T : Nat → Nat} {G l S : Nat} {nm : Nat → Nat} {A : Nat → Nat → Bool}
theorem gp_tw81 {n : Nat} (hn : 5000 ≤ n) (hM : gp_cM m g d K Wt T G l S) (o : gp_ok g d K Wt T G l S) (hN : gp_nM m g nm) {L : Nat} (hL : L < 2 ^ g) (hJ : gp_J m g (gp_A L l nm) 1 0) (k : gn_M → Option gn_M) : ∃ m', (gp_f1 52 m m' ∧ gp_J m' g (gp_A L l nm) (2 ^ g) 0) ∧ L_X4_tellWays_81 n (nI L) k n (nI 1) m = k m' := by
  have hg := o.g7
  have h7 := gp_p7 hg
  have hp := Nat.two_pow_pos g
  have key := gp_li (Lf := fun f i m => L_X4_tellWays_81 n (nI L) k f (nI i) m) (N := 2 ^ g) (I := fun i m' => (gp_f1 52 m m' ∧ gp_J m' g (gp_A L l nm) i 0) ∧ i ≠ 0) (kk := k) (fun f i m' hi hI => ?_) (fun f m' hI => ?_) (2 ^ g - 1) 1 n m (by omega) (by omega) ⟨⟨gp_f1.rfl', hJ⟩, by decide⟩
  · obtain ⟨m', ⟨i1, -⟩, e⟩ := key
    exact ⟨m', i1, e⟩
  · obtain ⟨⟨hI1, hI2⟩, h0⟩ := hI
    have hM' := (hI1.sf (by omega)).cM hM
    have hN' : gp_nM m' g nm := by unfold gp_nM; rw [hI1.1 51 (by omega)]; exact hN
    obtain ⟨m'', ⟨j1, j2⟩, j3⟩ := gp_tw93 hn hM' o hN' hL h0 hi hI2 (fun m16 => L_X4_tellWays_81 n (nI L) k f (nI (i + 1)) m16)
    refine ⟨m'', ⟨⟨hI1.tr j1, j2⟩, by omega⟩, ?_⟩
    show L_X4_tellWays_81 n (nI L) k (f + 1) (nI i) m' = _
    rw [L_X4_tellWays_81]
    simp (disch := omega) only [hM'.1.1, gp_lit, gp_sh, gp_lt, hi, if_true, nI_add]
    exact j3
  · show L_X4_tellWays_81 n (nI L) k (f + 1) (nI (2 ^ g)) m' = _
    rw [L_X4_tellWays_81]
    have hM' := (hI.1.1.sf (by omega)).cM hM
    simp (disch := omega) only [hM'.1.1, gp_lit, gp_sh, gp_lt, Nat.lt_irrefl, if_false]
theorem gp_tw7 {n : Nat} (hn : 5000 ≤ n) {a : Int32} (k : gn_M → Option gn_M) : ∃ m', (gp_f1 52 m m' ∧ ∀ x, x < 896 → m'.1 52 x = nI 0) ∧ L_X4_tellWays_7 n a k n 0 m = k m' := by
  refine gp_li (Lf := fun f i m => L_X4_tellWays_7 n a k f (nI i) m) (N := 896) (I := fun i m' => gp_f1 52 m m' ∧ ∀ x, x < i → m'.1 52 x = nI 0) (kk := k) (fun f i m' hi hI => ?_) (fun f m' hI => ?_) 896 0 n m (by omega) (by omega) ⟨gp_f1.rfl', fun x hx => by omega⟩
  · refine ⟨gn_up m' 52 i (nI 0), ⟨hI.1.up, fun x hx => ?_⟩, ?_⟩
    · rw [gp_u]
      by_cases q : x = i
      · rw [if_pos ⟨rfl, q⟩]
      · rw [if_neg (by omega)]
        exact hI.2 x (by omega)
    · show L_X4_tellWays_7 n a k (f + 1) (nI i) m' = _
      rw [L_X4_tellWays_7]
      simp (disch := omega) only [gp_lit, gp_lt, hi, if_true, gp_wr, nI_add]
  · show L_X4_tellWays_7 n a k (f + 1) (nI 896) m' = _
    rw [L_X4_tellWays_7]
    simp (disch := omega) only [gp_lit, gp_lt, Nat.lt_irrefl, if_false]
theorem gp_2i {i : Nat} (h : i < 7) : 2 ^ i ≤ 64 := Nat.pow_le_pow_right (by decide) (show i ≤ 6 by omega)
theorem gp_2inj {a b : Nat} (h : 2 ^ a = 2 ^ b) : a = b := by
  have := congrArg (fun z => z.testBit a) h
  simp only [Nat.testBit_two_pow_self, Nat.testBit_two_pow] at this
  simp at this
  omega
theorem gp_tw29 {n : Nat} (hn : 5000 ≤ n) (hM : gp_cM m g d K Wt T G l S) (o : gp_ok g d K Wt T G l S) (hN : gp_nM m g nm) {L : Nat} (hL : L < 2 ^ g) (hz : ∀ x, x < 896 → m.1 52 x = nI 0) (k : gn_M → Option gn_M) : ∃ m', (gp_f1 52 m m' ∧ gp_J m' g (gp_A L l nm) 1 0) ∧ L_X4_tellWays_29 n (nI L) k n 0 m = k m' := by
  have hg := o.g7
  have h7 := gp_p7 hg
  obtain ⟨A, hA⟩ : ∃ A, A = gp_A L l nm := ⟨_, rfl⟩
  rw [← hA]
  have key := gp_li (Lf := fun f i m => L_X4_tellWays_29 n (nI L) k f (nI i) m) (N := g) (I := fun i m' => gp_f1 52 m m' ∧ ∀ t, t < 2 ^ g → ∀ x, x < g → m'.1 52 (7 * t + x) = nI (if x < i ∧ t = 2 ^ x ∧ A 7 x = true then 1 else 0)) (kk := k) (fun f i m' hi hI => ?_) (fun f m' hI => ?_) g 0 n m (by omega) (by omega) ⟨gp_f1.rfl', fun t ht x hx => by rw [hz _ (by omega)]; simp⟩
  · obtain ⟨m', ⟨i1, i2⟩, e⟩ := key
    refine ⟨m', ⟨i1, fun t ht x hx => ?_⟩, e⟩
    rw [i2 t ht x hx]
    congr 1
    unfold gp_pv
    by_cases hb : t.testBit x = true
    · rw [if_pos hb]
      by_cases hr : gp_df t (2 ^ x) = 0
      · have : t = 2 ^ x := by
          have := (gp_addb' hb).1
          rw [hr, Nat.zero_or] at this
          exact this.symm
        rw [if_pos hr]
        simp only [hx, this, true_and]
      · rw [if_neg hr]
        have e1 : gp_Ps g 1 0 (gp_df t (2 ^ x)) = 0 := by
          unfold gp_Ps
          rw [if_neg (by omega)]
          split <;> rfl
        have hne : ¬ t = 2 ^ x := by
          intro e
          apply hr
          rw [e, gp_z]
          intro j
          rw [gp_rm_tb, Nat.testBit_two_pow]
          simp
        rw [e1, if_neg (fun z => hne z.2.1)]
        rfl
    · rw [if_neg hb, if_neg]
      rintro ⟨-, z, -⟩
      apply hb
      rw [z, Nat.testBit_two_pow_self]
  · have hM' := (hI.1.sf (by omega)).cM hM
    have hN' : gp_nM m' g nm := by unfold gp_nM; rw [hI.1.1 51 (by omega)]; exact hN
    have hmg := gp_mgL hM' o hN' (p := 7) (j := i) (by omega) hi
    have hgo := hM'.1.1
    have h2i := gp_2i (i := i) (by omega)
    refine ⟨gn_up m' 52 (7 * 2 ^ i + i) (nI (if A 7 i = true then 1 else 0)), ⟨hI.1.up, fun t ht x hx => ?_⟩, ?_⟩
    · rw [gp_u]
      by_cases qe : t = 2 ^ i ∧ x = i
      · obtain ⟨rfl, rfl⟩ := qe
        rw [if_pos ⟨rfl, rfl⟩]
        simp
      · rw [if_neg (by omega), hI.2 t ht x hx]
        have : (x < i + 1 ∧ t = 2 ^ x ∧ A 7 x = true) = (x < i ∧ t = 2 ^ x ∧ A 7 x = true) := by
          apply propext
          constructor
          · rintro ⟨z1, z2, z3⟩
            refine ⟨?_, z2, z3⟩
            by_cases e : x = i
            · exfalso
              apply qe
              rw [e] at z2
              exact ⟨z2, e⟩
            · omega
          · rintro ⟨z1, z2⟩
            exact ⟨by omega, z2⟩
        simp only [this]
    · show L_X4_tellWays_29 n (nI L) k (f + 1) (nI i) m' = _
      rw [L_X4_tellWays_29]
      by_cases c1 : L.testBit i = true
      · by_cases c2 : gp_mg l nm 7 i = true
        · have c3 : A 7 i = true := by rw [hA, gp_A, c1, c2]; rfl
          simp (disch := omega) only [gp_lit, hgo, gp_lt, hi, if_true, gp_has, c1, gp_bs, gp_eq, Nat.one_ne_zero, if_false, nI_add, hmg, c2, gp_sh, pk_mul, gp_wr, c3]
        · have c3 : ¬ A 7 i = true := by rw [hA, gp_A, c1]; simpa using c2
          simp (disch := omega) only [gp_lit, hgo, gp_lt, hi, if_true, gp_has, c1, gp_bs, gp_eq, Nat.one_ne_zero, if_false, nI_add, hmg, c2, gp_sh, pk_mul, gp_wr, c3, Bool.false_eq_true]
      · have c3 : ¬ A 7 i = true := by rw [hA, gp_A]; simp [c1]
        simp (disch := omega) only [gp_lit, hgo, gp_lt, hi, if_true, gp_has, c1, gp_bs, gp_eq, Nat.one_ne_zero, if_false, nI_add, gp_sh, pk_mul, gp_wr, c3, Bool.false_eq_true]
  · show L_X4_tellWays_29 n (nI L) k (f + 1) (nI g) m' = _
    rw [L_X4_tellWays_29]
    have hM' := (hI.1.sf (by omega)).cM hM
    simp (disch := omega) only [hM'.1.1, gp_lt, Nat.lt_irrefl, if_false]
/-- the table of ways -/
def gp_s52 (m : gn_M) (g : Nat) (A : Nat → Nat → Bool) : Prop := ∀ t, t < 2 ^ g → ∀ x, x < g → m.1 52 (7 * t + x) = nI (if t = 0 then 0 else gp_Q g A t 7 x)
theorem gp_twL {n : Nat} (hn : 5000 ≤ n) (hM : gp_cM m g d K Wt T G l S) (o : gp_ok g d K Wt T G l S) (hN : gp_nM m g nm) : ∃ m', f_X4_tellWays n m = some m' ∧ gp_f1 52 m m' ∧ gp_s52 m' g (gp_A (gp_lf g G) l nm) := by
  have hg := o.g7
  have h7 := gp_p7 hg
  obtain ⟨L, hL⟩ : ∃ L, L = gp_lf g G := ⟨_, rfl⟩
  have hLl : L < 2 ^ g := by rw [hL]; exact gp_lf_lt g G
  have el := gp_leftM hM o
  rw [← hL] at el ⊢
  obtain ⟨m1, ⟨a1, a2⟩, a3⟩ := gp_tw7 (m := m) hn (a := nI L) (fun (m3 : gn_M) => L_X4_tellWays_29 n (nI L) (fun (m9 : gn_M) => L_X4_tellWays_81 n (nI L) (fun (m18 : gn_M) => some m18) n (1 : Int32) m9) n (0 : Int32) m3)
  have hM1 := (a1.sf (by omega)).cM hM
  have hN1 : gp_nM m1 g nm := by unfold gp_nM; rw [a1.1 51 (by omega)]; exact hN
  obtain ⟨m2, ⟨b1, b2⟩, b3⟩ := gp_tw29 hn hM1 o hN1 hLl a2 (fun (m9 : gn_M) => L_X4_tellWays_81 n (nI L) (fun (m18 : gn_M) => some m18) n (1 : Int32) m9)
  have hM2 := (b1.sf (by omega)).cM hM1
  have hN2 : gp_nM m2 g nm := by unfold gp_nM; rw [b1.1 51 (by omega)]; exact hN1
  obtain ⟨m3, ⟨c1, c2⟩, c3⟩ := gp_tw81 hn hM2 o hN2 hLl b2 (fun (m18 : gn_M) => some m18)
  refine ⟨m3, ?_, (a1.tr b1).tr c1, fun t ht x hx => ?_⟩
  · unfold f_X4_tellWays
    rw [el, gp_bs, a3, b3]
    exact c3
  · rw [c2 t ht x hx, gp_Ps, if_pos (gp_df_lt ht)]
    by_cases h0 : t = 0
    · rw [if_pos h0, h0, gp_pv, if_neg (by rw [Nat.zero_testBit]; decide)]
    · rw [if_neg h0, gp_pvQ hg ht h0 hx]
theorem gp_QNg (hg : g ≤ 7) {s : Nat} (hs : s < 2 ^ g) (h0 : s ≠ 0) : gp_su (fun t => gp_Q g A s 7 t) g = gp_N g A s 7 := by
  rw [← gp_QN hg s 7 (by decide)]
  obtain ⟨k, hk⟩ : ∃ k, 8 = g + k := ⟨8 - g, by omega⟩
  rw [hk, gp_su_ex k (fun i h1 h2 => ?_)]
  rw [gp_Qz _ _ h0]
  cases hq : s.testBit i
  · rfl
  · have := gp_tb_lt hs hq
    omega
theorem gp_ooL {n : Nat} (hn : 5000 ≤ n) (hM : gp_cM m g d K Wt T G l S) (hg : g ≤ 7) (h52 : gp_s52 m g A) {s : Nat} (hs : s < 2 ^ g) : f_X4_ordersOf n m (nI s) = some (nI (gp_N g A s 7)) := by
  have h7 := gp_p7 hg
  have e := hM.1.1
  have eN : gp_N g A s 7 = (if s = 0 then 1 else 0) + gp_su (fun x => if s = 0 then 0 else gp_Q g A s 7 x) g := by
    by_cases h0 : s = 0
    · subst h0
      simp only [if_true]
      rw [gp_N0, gp_su_0]
    · simp only [h0, if_false]
      rw [gp_QNg hg hs h0, Nat.zero_add]
  rw [eN]
  have e0 : (if nI s = 0 then (1 : Int32) else (0 : Int32)) = nI ((if s = 0 then 1 else 0) + gp_su (fun x => if s = 0 then 0 else gp_Q g A s 7 x) 0) := by
    have ee : (nI s = (0 : Int32)) = (s = 0) := gp_eq (by omega) (by decide)
    simp only [ee, gp_su, Nat.add_zero]
    split <;> rfl
  unfold f_X4_ordersOf
  rw [e0]
  refine gp_lp0 (Lf := fun f i (acc : Int32) => L_X4_ordersOf_12 n m (nI s) (fun e => some e) f acc (nI i)) (N := g) (A := fun i => nI ((if s = 0 then 1 else 0) + gp_su (fun x => if s = 0 then 0 else gp_Q g A s 7 x) i)) (fun f i hi => ?_) (fun f => ?_) (by omega)
  · show L_X4_ordersOf_12 n m (nI s) _ (f + 1) _ (nI i) = _
    rw [L_X4_ordersOf_12]
    have e52 := h52 s hs i hi
    simp (disch := omega) only [gp_lit, e, gp_lt, hi, if_true, pk_mul, nI_add, gp_rd, e52, gp_su, Nat.add_assoc]
  · show L_X4_ordersOf_12 n m (nI s) _ (f + 1) _ (nI g) = _
    rw [L_X4_ordersOf_12]
    simp (disch := omega) only [e, gp_lt, Nat.lt_irrefl, if_false]
theorem gp_mxE (hg : g ≤ 7) {s : Nat} (hs : s < 2 ^ g) : gp_mx (fun t => if gp_df t s = 0 ∧ 0 < gp_N g A t 7 then gp_po t else 0) (2 ^ g) = gp_E g A s 7 := by
  apply Nat.le_antisymm
  · rcases gp_mx_is (f := fun t => if gp_df t s = 0 ∧ 0 < gp_N g A t 7 then gp_po t else 0) (n := 2 ^ g) with q | ⟨t, h1, h2⟩
    · omega
    · rw [h2]
      split
      · next hc => exact (gp_Elem hg s 7 _ hs).mp ⟨t, gp_df0.mp hc.1, rfl, hc.2⟩
      · omega
  · obtain ⟨t, h1, h2, h3⟩ := (gp_Elem (A := A) hg s 7 (gp_E g A s 7) hs).mpr (Nat.le_refl _)
    have := gp_mx_ge (f := fun t => if gp_df t s = 0 ∧ 0 < gp_N g A t 7 then gp_po t else 0) (n := 2 ^ g) (i := t) (by have := gp_sb_le h1; omega)
    simp only [gp_df0.mpr h1, h3, true_and, if_true] at this
    omega
theorem gp_moL {n : Nat} (hn : 5000 ≤ n) (hM : gp_cM m g d K Wt T G l S) (hg : g ≤ 7) (h52 : gp_s52 m g A) {s : Nat} (hs : s < 2 ^ g) : f_X4_mostOf n m (nI s) = some (nI (gp_E g A s 7)) := by
  have h7 := gp_p7 hg
  have e := hM.1.1
  rw [← gp_mxE hg hs]
  unfold f_X4_mostOf
  have hm : ∀ i, gp_mx (fun t => if gp_df t s = 0 ∧ 0 < gp_N g A t 7 then gp_po t else 0) i ≤ 8 := by
    intro i
    rcases gp_mx_is (f := fun t => if gp_df t s = 0 ∧ 0 < gp_N g A t 7 then gp_po t else 0) (n := i) with q | ⟨j, -, q⟩
    · omega
    · rw [q]
      split
      · exact gp_po_le j
      · omega
  refine gp_lp0 (Lf := fun f i (acc : Int32) => L_X4_mostOf_4 n m (nI s) (fun e => some e) f acc (nI i)) (N := 2 ^ g) (A := fun i => nI (gp_mx (fun t => if gp_df t s = 0 ∧ 0 < gp_N g A t 7 then gp_po t else 0) i)) (fun f i hi => ?_) (fun f => ?_) (by omega)
  · show L_X4_mostOf_4 n m (nI s) _ (f + 1) _ (nI i) = _
    rw [L_X4_mostOf_4]
    have hmi := hm i
    have hpo := gp_po_le i
    have hdf := gp_df_le i s
    have hNl := gp_N_lt (A := A) (s := i) (i := 7) hg hi
    have eo := gp_ooL hn hM hg h52 hi
    have eb := gp_bits (n := n) (s := i) hn (by omega)
    rw [gp_mx]
    unfold gn_jn
    by_cases c1 : gp_df i s = 0
    · by_cases c2 : 0 < gp_N g A i 7
      · by_cases c3 : gp_mx (fun t => if gp_df t s = 0 ∧ 0 < gp_N g A t 7 then gp_po t else 0) i < gp_po i
        · simp (disch := omega) only [gp_lit, e, gp_sh, gp_lt, hi, if_true, gp_nt, gp_eq, c1, eo, eb, gp_bs, c2, c3, Nat.one_ne_zero, if_false, nI_add, and_self]
        · simp (disch := omega) only [gp_lit, e, gp_sh, gp_lt, hi, if_true, gp_nt, gp_eq, c1, eo, eb, gp_bs, c2, c3, Nat.one_ne_zero, if_false, nI_add, and_self]
      · simp (disch := omega) only [gp_lit, e, gp_sh, gp_lt, hi, if_true, gp_nt, gp_eq, c1, eo, eb, gp_bs, c2, Nat.one_ne_zero, if_false, nI_add, and_false, Nat.not_lt_zero]
    · simp (disch := omega) only [gp_lit, e, gp_sh, gp_lt, hi, if_true, gp_nt, gp_eq, c1, Nat.one_ne_zero, if_false, nI_add, false_and, Nat.not_lt_zero]
  · show L_X4_mostOf_4 n m (nI s) _ (f + 1) _ (nI (2 ^ g)) = _
    rw [L_X4_mostOf_4]
    simp (disch := omega) only [gp_lit, gp_sh, e, gp_lt, Nat.lt_irrefl, if_false]
end GPX
