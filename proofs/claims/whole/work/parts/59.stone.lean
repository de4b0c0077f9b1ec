/-! PURE: stone -/
section GPST
variable {m m' : gn_M} {g d : Nat} {K Wt T : Nat → Nat} {G l S : Nat}
/-- what each would be told by the card of one -/
def gp_tcd (K T : Nat → Nat) (G S i j : Nat) : Nat := if j ≠ i ∧ G.testBit j = false then T j ||| gp_df (S ||| gp_tl (K i) i (T i)) (2 ^ j) else T j
theorem gp_tcd_lt (o : gp_ok g d K Wt T G l S) {i j : Nat} (hi : i < g) (hj : j < g) : gp_tcd K T G S i j < 2 ^ g := by
  unfold gp_tcd
  have h1 := (o.2.2.1 j hj).2.2.1
  split
  · exact gp_or_lt h1 (gp_df_lt (gp_or_lt o.2.2.2.2.1 (gp_tl_lt (o.2.2.1 i hi).2.2.1 hi)))
  · exact h1
def gp_se (g : Nat) (K T : Nat → Nat) (G l S i : Nat) : Nat := gp_E g (gp_A (gp_lf g G) l (fun j => gp_nm g K j (gp_tcd K T G S i j))) (gp_lf g G) 7
theorem gp_mbC {n : Nat} (hn : 5000 ≤ n) (hC : gp_cC m g d K Wt T G l S) (o : gp_ok g d K Wt T G l S) {i : Nat} (hi : i < g) : ∃ m', f_X3_mostByCardOf n m (nI i) = some (nI (gp_se g K T G l S i), m') ∧ gp_sf m m' := by
  have hg := o.g7
  have h7 := gp_p7 hg
  have et := gp_tellC hC o hi
  obtain ⟨cd, ecd⟩ : ∃ cd, cd = S ||| gp_tl (K i) i (T i) := ⟨_, rfl⟩
  have key := gp_li (Lf := fun f j m => L_X3_mostByCardOf_19 n (nI i) (nI cd) (fun (m9 : gn_M) => (f_X1_survey n m9 24).bind (fun x10 => (f_X1_rank n x10).bind (fun x11 => gn_rd x11 35 128 (x11.1 8 6) (fun x12 => some (x12, x11))))) f (nI j) m) (N := g) (I := fun j m' => gp_f1 24 m m' ∧ ∀ x, x < j → m'.1 24 x = nI (gp_tcd K T G S i x)) (kk := fun m9 => (f_X1_survey n m9 24).bind (fun x10 => (f_X1_rank n x10).bind (fun x11 => gn_rd x11 35 128 (x11.1 8 6) (fun x12 => some (x12, x11))))) (fun f j m' hj hI => ?_) (fun f m' hI => ?_) g 0 n m (by omega) (by omega) ⟨gp_f1.rfl', fun x hx => by omega⟩
  · obtain ⟨m', ⟨i1, i2⟩, e⟩ := key
    have hC' := (i1.sf (by omega)).cC hC
    obtain ⟨m1, a1, a2, a3, a4, a5⟩ := gp_svL hn hC' o (c := 24) (by decide) (by decide) (T' := gp_tcd K T G S i) (fun j hj => ⟨i2 j hj, gp_tcd_lt o hi hj⟩)
    have hA := gp_rA_is (nm := fun j => gp_nm g K j (gp_tcd K T G S i j)) hg (gp_lf_lt g G) o.2.2.2.2.2
    obtain ⟨m2, b1, b2, b3, b4, b5⟩ := gp_rkT hn a4 hA a5
    have sf1 : gp_sf m' m1 := ⟨fun c hc => a2 c (by omega) (by omega) (by omega), a3⟩
    refine ⟨m2, ?_, ((i1.sf (by omega)).tr sf1).tr b2⟩
    have hLl := gp_lf_lt g G
    have e35 := b5 (gp_lf g G) (fun _ z => z)
    unfold f_X3_mostByCardOf
    rw [et, gp_bs, hC.1.2.2.2.2, gp_or, ← ecd]
    refine Eq.trans e ?_
    show (f_X1_survey n m' 24).bind _ = _
    rw [a1, gp_bs, b1, gp_bs, b3.2.1, gp_rd (by omega) (by omega), e35]
    rfl
  · have hC' := (hI.1.sf (by omega)).cC hC
    have hw := gp_waits hC' o (i := j) (by omega)
    have e30 := (hC'.2.1 j hj).2.2
    refine ⟨gn_up m' 24 j (nI (gp_tcd K T G S i j)), ⟨hI.1.up, fun x hx => ?_⟩, ?_⟩
    · rw [gp_u]
      by_cases q : x = j
      · rw [if_pos ⟨rfl, q⟩, q]
      · rw [if_neg (by omega)]
        exact hI.2 x (by omega)
    · show L_X3_mostByCardOf_19 n (nI i) (nI cd) _ (f + 1) (nI j) m' = _
      rw [L_X3_mostByCardOf_19]
      unfold gn_jn gp_tcd
      rw [← ecd]
      by_cases c1 : j = i
      · subst c1
        simp (disch := omega) only [hC'.1.1, gp_lt, hj, if_true, gp_lit, ne_eq, not_true, false_and, if_false, gp_rd, gp_wr, nI_add, e30]
      · by_cases c2 : G.testBit j = true
        · simp (disch := omega) only [hC'.1.1, gp_lt, hj, if_true, gp_eq, c1, gp_lit, hw, c2, gp_bs, if_false, gp_rd, gp_wr, nI_add, e30, ne_eq, not_false_eq_true, true_and, Bool.true_eq_false]
        · have c2' : G.testBit j = false := by simpa using c2
          simp (disch := omega) only [hC'.1.1, gp_lt, hj, if_true, gp_eq, c1, gp_lit, hw, c2', gp_bs, if_false, gp_rd, gp_wr, nI_add, e30, ne_eq, not_false_eq_true, true_and, Bool.false_eq_true, Nat.one_ne_zero, gp_sh, gp_nt, gp_or]
  · show L_X3_mostByCardOf_19 n (nI i) (nI cd) _ (f + 1) (nI g) m' = _
    rw [L_X3_mostByCardOf_19]
    have hC' := (hI.1.sf (by omega)).cC hC
    simp (disch := omega) only [hC'.1.1, gp_lt, Nat.lt_irrefl, if_false]
theorem gp_s51 {n : Nat} (hn : 5000 ≤ n) (hM : gp_cM m g d K Wt T G l S) (o : gp_ok g d K Wt T G l S) {i : Nat} (hi : i < g) {a1 a2 : Int32} (k : gn_M → Option (Int32 × gn_M)) : ∃ m', (gp_f1 51 m m' ∧ gp_nM m' g (fun j => gp_nm g K j (gp_tcd K T G S i j))) ∧ L_X4_stone_51 n a1 a2 (nI i) (nI (S ||| gp_tl (K i) i (T i))) k n (nI 0) m = k m' := by
  have hg := o.g7
  have h7 := gp_p7 hg
  obtain ⟨cd, ecd⟩ : ∃ cd, cd = S ||| gp_tl (K i) i (T i) := ⟨_, rfl⟩
  rw [← ecd]
  have key := gp_li (Lf := fun f j m => L_X4_stone_51 n a1 a2 (nI i) (nI cd) k f (nI j) m) (N := g) (I := fun j m' => gp_f1 51 m m' ∧ ∀ x, x < j → m'.1 51 x = nI (gp_nm g K x (gp_tcd K T G S i x))) (kk := k) (fun f j m' hj hI => ?_) (fun f m' hI => ?_) g 0 n m (by omega) (by omega) ⟨gp_f1.rfl', fun x hx => by omega⟩
  · obtain ⟨m', ⟨i1, i2⟩, e⟩ := key
    exact ⟨m', ⟨i1, fun j hj => ⟨i2 j hj, gp_nm_lt hj (gp_tcd_lt o hi hj)⟩⟩, e⟩
  · have hM' := (hI.1.sf (by omega)).cM hM
    have hw := gp_thr hM' o (i := j) (by omega)
    have et := gp_toldM hM' hg o.2.1 hj
    have en := gp_namesBy hn hM' hg (fun i hi => (o.2.2.1 i hi).1) (i := j) (t := gp_tcd K T G S i j) hj
    refine ⟨gn_up m' 51 j (nI (gp_nm g K j (gp_tcd K T G S i j))), ⟨hI.1.up, fun x hx => ?_⟩, ?_⟩
    · rw [gp_u]
      by_cases q : x = j
      · rw [if_pos ⟨rfl, q⟩, q]
      · rw [if_neg (by omega)]
        exact hI.2 x (by omega)
    · show L_X4_stone_51 n a1 a2 (nI i) (nI cd) k (f + 1) (nI j) m' = _
      rw [L_X4_stone_51]
      unfold gn_jn
      by_cases c1 : j = i
      · have ec : gp_tcd K T G S i j = T j := by unfold gp_tcd; rw [if_neg (fun z => z.1 c1)]
        rw [ec] at en ⊢
        simp (disch := omega) only [hM'.1.1, gp_lt, hj, if_true, gp_eq, if_pos c1, gp_lit, et, gp_bs, gp_or, Nat.or_zero, en, gp_wr, nI_add]
      · by_cases c2 : G.testBit j = true
        · have ec : gp_tcd K T G S i j = T j := by unfold gp_tcd; rw [if_neg (fun z => by rw [c2] at z; exact absurd z.2 (by decide))]
          rw [ec] at en ⊢
          simp (disch := omega) only [hM'.1.1, gp_lt, hj, if_true, gp_eq, c1, if_false, hw, c2, Nat.one_ne_zero, gp_lit, et, gp_bs, gp_or, Nat.or_zero, en, gp_wr, nI_add]
        · have c2' : G.testBit j = false := by simpa using c2
          have ec : gp_tcd K T G S i j = T j ||| gp_df cd (2 ^ j) := by unfold gp_tcd; rw [if_pos ⟨c1, c2'⟩, ← ecd]
          rw [ec] at en ⊢
          simp (disch := omega) only [hM'.1.1, gp_lt, hj, if_true, gp_eq, c1, if_false, hw, c2', gp_lit, et, gp_bs, gp_or, gp_sh, gp_nt, en, gp_wr, nI_add, Bool.false_eq_true]
  · show L_X4_stone_51 n a1 a2 (nI i) (nI cd) k (f + 1) (nI g) m' = _
    rw [L_X4_stone_51]
    have hM' := (hI.1.sf (by omega)).cM hM
    simp (disch := omega) only [hM'.1.1, gp_lt, Nat.lt_irrefl, if_false]
/-- the first of those who wait by whom it is most -/
def gp_sg (G : Nat) (E : Nat → Nat) (s0 : Int32) : Nat → Int32 × Int32
  | 0 => (-nI 9, s0)
  | i + 1 => if G.testBit i = true then gp_sg G E s0 i else if (gp_sg G E s0 i).2 < nI (E i) then (nI i, nI (E i)) else gp_sg G E s0 i
theorem gp_sg_eq {E : Nat → Nat} (hE : ∀ i, E i ≤ 8) : ∀ i, i ≤ 7 → (gp_sg G E (-nI 1) i = (-nI 9, -nI 1) ∧ gp_sg G E (-nI 9) i = (-nI 9, -nI 9)) ∨ (gp_sg G E (-nI 1) i = gp_sg G E (-nI 9) i ∧ (gp_sg G E (-nI 9) i).1 ≠ -nI 9)
  | 0, _ => Or.inl ⟨rfl, rfl⟩
  | i + 1, hi => by
    have hn : ∀ k, k ≤ 8 → (-nI 1 < nI k) ∧ (-nI 9 < nI k) := by decide
    have hne : ∀ k, k ≤ 7 → nI k ≠ -nI 9 := by decide
    rw [gp_sg, gp_sg]
    by_cases hb : G.testBit i = true
    · rw [if_pos hb, if_pos hb]
      exact gp_sg_eq hE i (by omega)
    · rw [if_neg hb, if_neg hb]
      rcases gp_sg_eq hE i (by omega) with ⟨e1, e2⟩ | ⟨e1, e2⟩
      · rw [e1, e2]
        have := hn (E i) (hE i)
        rw [if_pos this.1, if_pos this.2]
        exact Or.inr ⟨rfl, hne i (by omega)⟩
      · rw [e1]
        right
        refine ⟨rfl, ?_⟩
        split
        · exact hne i (by omega)
        · exact e2
theorem op_stone {n : Nat} (hn : 5000 ≤ n) {m : gn_M} (h : gp_rel m) : ∃ r m1 m2, f_X3_stone n m = some (r, m1) ∧ f_X4_stone n m1 = some (r, m2) ∧ gp_rel m2 := by
  obtain ⟨g, d, K, Wt, T, G, l, S, o, hC, hM⟩ := h.2.2.2.now
  have hg := o.g7
  have h7 := gp_p7 hg
  by_cases g0 : g = 0
  · subst g0
    exact ⟨-4, m, m, by simp [f_X3_stone, hC.1.1, gp_lit], by simp [f_X4_stone, hM.1.1, gp_lit], h⟩
  have hE : ∀ i, gp_se g K T G l S i ≤ 8 := fun i => Nat.le_trans (gp_E_le hg (gp_lf_lt g G)) (gp_po_le _)
  have lpC : ∀ k : Int32 → Int32 → gn_M → Option (Int32 × gn_M), ∃ m', gp_sf m m' ∧ L_X3_stone_20 n k n (-nI 9) (-nI 1) (nI 0) m = k (gp_sg G (gp_se g K T G l S) (-nI 1) g).1 (gp_sg G (gp_se g K T G l S) (-nI 1) g).2 m' := by
    intro k
    have key := gp_li (Lf := fun f i (x : (Int32 × Int32) × gn_M) => L_X3_stone_20 n k f x.1.1 x.1.2 (nI i) x.2) (N := g) (I := fun i x => gp_sf m x.2 ∧ x.1 = gp_sg G (gp_se g K T G l S) (-nI 1) i) (kk := fun x => k x.1.1 x.1.2 x.2) (fun f i x hi hI => ?_) (fun f x hI => ?_) g 0 n ((-nI 9, -nI 1), m) (by omega) (by omega) ⟨gp_sf.rfl', rfl⟩
    · obtain ⟨x, ⟨i1, i2⟩, e⟩ := key
      refine ⟨x.2, i1, ?_⟩
      rw [← i2]
      exact e
    · obtain ⟨⟨v1, v2⟩, m'⟩ := x
      obtain ⟨hI1, hI2⟩ := hI
      dsimp only at hI1 hI2
      have hC' := hI1.cC hC
      have hw := gp_waits hC' o (i := i) (by omega)
      by_cases hb : G.testBit i = true
      · refine ⟨((v1, v2), m'), ⟨hI1, ?_⟩, ?_⟩
        · rw [gp_sg, if_pos hb]; exact hI2
        · show L_X3_stone_20 n k (f + 1) v1 v2 (nI i) m' = _
          rw [L_X3_stone_20]
          simp (disch := omega) only [hC'.1.1, gp_lt, hi, if_true, hw, hb, gp_bs, gp_lit, nI_add]
      · obtain ⟨m'', b1, b2⟩ := gp_mbC hn hC' o hi
        by_cases hl : v2 < nI (gp_se g K T G l S i)
        · refine ⟨((nI i, nI (gp_se g K T G l S i)), m''), ⟨hI1.tr b2, ?_⟩, ?_⟩
          · rw [gp_sg, if_neg hb, ← hI2, if_pos hl]
          · show L_X3_stone_20 n k (f + 1) v1 v2 (nI i) m' = _
            rw [L_X3_stone_20]
            simp (disch := omega) only [hC'.1.1, gp_lt, hi, if_true, hw, hb, gp_bs, gp_lit, nI_add, gp_eq, Nat.one_ne_zero, if_false, b1, hl, Bool.false_eq_true]
        · refine ⟨((v1, v2), m''), ⟨hI1.tr b2, ?_⟩, ?_⟩
          · rw [gp_sg, if_neg hb, ← hI2, if_neg hl]
          · show L_X3_stone_20 n k (f + 1) v1 v2 (nI i) m' = _
            rw [L_X3_stone_20]
            simp (disch := omega) only [hC'.1.1, gp_lt, hi, if_true, hw, hb, gp_bs, gp_lit, nI_add, gp_eq, Nat.one_ne_zero, if_false, b1, hl, Bool.false_eq_true]
    · show L_X3_stone_20 n k (f + 1) _ _ (nI g) x.2 = _
      rw [L_X3_stone_20]
      have hC' := hI.1.cC hC
      simp (disch := omega) only [hC'.1.1, gp_lt, Nat.lt_irrefl, if_false]
  have lpM : ∀ m0, gp_cM m0 g d K Wt T G l S → ∀ k : Int32 → Int32 → gn_M → Option (Int32 × gn_M), ∃ m', gp_sf m0 m' ∧ L_X4_stone_18 n k n (-nI 9) (-nI 9) (nI 0) m0 = k (gp_sg G (gp_se g K T G l S) (-nI 9) g).1 (gp_sg G (gp_se g K T G l S) (-nI 9) g).2 m' := by
    intro m0 hM0 k
    have key := gp_li (Lf := fun f i (x : (Int32 × Int32) × gn_M) => L_X4_stone_18 n k f x.1.1 x.1.2 (nI i) x.2) (N := g) (I := fun i x => gp_sf m0 x.2 ∧ x.1 = gp_sg G (gp_se g K T G l S) (-nI 9) i) (kk := fun x => k x.1.1 x.1.2 x.2) (fun f i x hi hI => ?_) (fun f x hI => ?_) g 0 n ((-nI 9, -nI 9), m0) (by omega) (by omega) ⟨gp_sf.rfl', rfl⟩
    · obtain ⟨x, ⟨i1, i2⟩, e⟩ := key
      refine ⟨x.2, i1, ?_⟩
      rw [← i2]
      exact e
    · obtain ⟨⟨v1, v2⟩, m'⟩ := x
      obtain ⟨hI1, hI2⟩ := hI
      dsimp only at hI1 hI2
      have hM' := hI1.cM hM0
      have hw := gp_thr hM' o (i := i) (by omega)
      by_cases hb : G.testBit i = true
      · refine ⟨((v1, v2), m'), ⟨hI1, ?_⟩, ?_⟩
        · rw [gp_sg, if_pos hb]; exact hI2
        · show L_X4_stone_18 n k (f + 1) v1 v2 (nI i) m' = _
          rw [L_X4_stone_18]
          simp (disch := omega) only [hM'.1.1, gp_lt, hi, if_true, hw, hb, gp_bs, gp_lit, nI_add, gp_eq, Nat.one_ne_zero, if_false]
      · have e9 := gp_now hM' o.2.1 (j := 9) (by decide)
        rw [hM'.1.2.2.2.2] at e9
        have et := gp_tellM hM' o hi
        obtain ⟨m3, ⟨b1, b2⟩, b3⟩ := gp_s51 hn hM' o hi (a1 := v1) (a2 := v2) (fun (m10 : gn_M) => (f_X4_tellWays n m10).bind (fun x11 => (f_X4_left x11).bind (fun x12 => (f_X4_mostOf n x11 x12).bind (fun x13 => (if v2 < x13 then L_X4_stone_18 n k f (nI i) x13 (nI (i + 1)) x11 else L_X4_stone_18 n k f v1 v2 (nI (i + 1)) x11)))))
        have hM3 := (b1.sf (by omega)).cM hM'
        obtain ⟨m4, c1, c2, c3⟩ := gp_twL hn hM3 o b2
        have hM4 := (c2.sf (by omega)).cM hM3
        have el := gp_leftM hM4 o
        have em := gp_moL hn hM4 hg c3 (gp_lf_lt g G)
        have sfa := (hI1.tr (b1.sf (by omega))).tr (c2.sf (by omega))
        rw [c1, gp_bs, el, gp_bs, em, gp_bs] at b3
        by_cases hl : v2 < nI (gp_se g K T G l S i)
        · refine ⟨((nI i, nI (gp_se g K T G l S i)), m4), ⟨sfa, ?_⟩, ?_⟩
          · rw [gp_sg, if_neg hb, ← hI2, if_pos hl]
          · show L_X4_stone_18 n k (f + 1) v1 v2 (nI i) m' = _
            rw [L_X4_stone_18]
            simp (disch := omega) only [hM'.1.1, gp_lt, hi, if_true, hw, hb, gp_bs, gp_lit, nI_add, gp_eq, if_false, e9, et, gp_or, Bool.false_eq_true]
            refine b3.trans ?_
            exact if_pos hl
        · refine ⟨((v1, v2), m4), ⟨sfa, ?_⟩, ?_⟩
          · rw [gp_sg, if_neg hb, ← hI2, if_neg hl]
          · show L_X4_stone_18 n k (f + 1) v1 v2 (nI i) m' = _
            rw [L_X4_stone_18]
            simp (disch := omega) only [hM'.1.1, gp_lt, hi, if_true, hw, hb, gp_bs, gp_lit, nI_add, gp_eq, if_false, e9, et, gp_or, Bool.false_eq_true]
            refine b3.trans ?_
            exact if_neg hl
    · show L_X4_stone_18 n k (f + 1) _ _ (nI g) x.2 = _
      rw [L_X4_stone_18]
      have hM' := hI.1.cM hM0
      simp (disch := omega) only [hM'.1.1, gp_lt, Nat.lt_irrefl, if_false]
  have ne0C : ¬ (m.1 7 6 = 0) := by rw [hC.1.1]; exact fun z => g0 ((gp_eq (by omega) (by decide)).mp z)
  obtain ⟨m2, a1, a2⟩ := lpC (fun (e3 : Int32) (e4 : Int32) (m5 : gn_M) => (if e3 = (-9 : Int32) then some ((-9 : Int32), m5) else (f_X3_toldAside m5 e3 e4).bind (fun x6 => some (x6.1, x6.2))))
  have eC : f_X3_stone n m = (if (gp_sg G (gp_se g K T G l S) (-nI 1) g).1 = (-9 : Int32) then some ((-9 : Int32), m2) else some ((gp_sg G (gp_se g K T G l S) (-nI 1) g).1, gn_up m2 0 10 (gp_sg G (gp_se g K T G l S) (-nI 1) g).2)) := by
    unfold f_X3_stone
    rw [if_neg ne0C]
    exact a2
  rcases gp_sg_eq (G := G) hE g hg with ⟨e1, e2⟩ | ⟨e1, e2⟩
  · rw [e1] at eC
    have hM2 := a1.cM hM
    obtain ⟨m5, c1, c2⟩ := lpM m2 hM2 (fun (e14 : Int32) (e15 : Int32) (m16 : gn_M) => (if e14 = (-9 : Int32) then some (e14, m16) else (f_X4_told m16 e15).bind (fun x17 => some (e14, x17.2))))
    rw [e2] at c2
    refine ⟨-9, m2, m5, eC, ?_, (a1.tr c1).rel h⟩
    have ne0M : ¬ (m2.1 38 10 = 0) := by rw [hM2.1.1]; exact fun z => g0 ((gp_eq (by omega) (by decide)).mp z)
    unfold f_X4_stone
    rw [if_neg ne0M]
    exact c2
  · obtain ⟨H, eH⟩ : ∃ H, H = gp_sg G (gp_se g K T G l S) (-nI 9) g := ⟨_, rfl⟩
    rw [e1, ← eH] at eC
    rw [← eH] at e2
    have e2' : ¬ H.1 = (-9 : Int32) := e2
    rw [if_neg e2'] at eC
    have hM2 : gp_cM (gn_up m2 0 10 H.2) g d K Wt T G l S := (a1.cM hM).fr rfl rfl rfl rfl rfl
    obtain ⟨m5, c1, c2⟩ := lpM (gn_up m2 0 10 H.2) hM2 (fun (e14 : Int32) (e15 : Int32) (m16 : gn_M) => (if e14 = (-9 : Int32) then some (e14, m16) else (f_X4_told m16 e15).bind (fun x17 => some (e14, x17.2))))
    rw [← eH, if_neg e2'] at c2
    refine ⟨H.1, gn_up m2 0 10 H.2, gn_up m5 38 2 H.2, eC, ?_, gp_sf_told h a1 c1⟩
    have ne0M : ¬ ((gn_up m2 0 10 H.2).1 38 10 = 0) := by rw [hM2.1.1]; exact fun z => g0 ((gp_eq (by omega) (by decide)).mp z)
    unfold f_X4_stone
    rw [if_neg ne0M]
    exact c2
end GPST
