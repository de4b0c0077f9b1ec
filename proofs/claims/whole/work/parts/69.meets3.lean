/-! PURE: meetings: the class looks for two -/
def gp_fm4 (m m' : gn_M) : Prop := (∀ c, c ≠ 8 → c ≠ 33 → c ≠ 34 → c ≠ 24 → c ≠ 25 → m'.1 c = m.1 c) ∧ m'.2 = m.2
section GPMG
variable {m m' : gn_M} {g d : Nat} {K Wt T : Nat → Nat} {G l S : Nat}
theorem gp_fm4.cC (h : gp_fm4 m m') (hC : gp_cC m g d K Wt T G l S) : gp_cC m' g d K Wt T G l S := hC.fr (h.1 7 (by omega) (by omega) (by omega) (by omega) (by omega)) (h.1 27 (by omega) (by omega) (by omega) (by omega) (by omega)) (h.1 28 (by omega) (by omega) (by omega) (by omega) (by omega)) (h.1 30 (by omega) (by omega) (by omega) (by omega) (by omega)) (h.1 31 (by omega) (by omega) (by omega) (by omega) (by omega))
theorem gp_ft17 {n : Nat} (hn : 5000 ≤ n) {m0 : gn_M} (hC : gp_cC m0 g d K Wt T G l S) (o : gp_ok g d K Wt T G l S) {i : Nat} (hi : i < g) {k : gn_M → Option (Int32 × gn_M)} (hk : ∀ m', gp_fm4 m0 m' → ∃ m'', gp_fm4 m0 m'' ∧ k m' = some (gp_W (gp_q2 g K G l T) (gp_v2 g K G l T) (11 * (i + 1) + 1), m'')) : ∀ c j f m, j + c = g → c < f → i < j → gp_fm4 m0 m → ∃ m', gp_fm4 m0 m' ∧ L_X3_firstTwoMeetings_17 n (nI i) k f (nI j) m = some (gp_W (gp_q2 g K G l T) (gp_v2 g K G l T) (10 * i + j), m') := by
  have hg := o.g7
  intro c
  induction c with
  | zero =>
    intro j f m hj hf hij hI
    obtain ⟨f, rfl⟩ : ∃ f', f = f' + 1 := ⟨f - 1, by omega⟩
    obtain ⟨m', a1, a2⟩ := hk m hI
    have hC' := hI.cC hC
    have hs := gp_W_skip (Q := gp_q2 g K G l T) (v := gp_v2 g K G l T) (a := 10 * i + j) (i + 12 - j) (by omega) (fun x h1 h2 => by
      unfold gp_q2
      rw [gp_two_no (by omega)]
      rfl)
    refine ⟨m', a1, ?_⟩
    rw [L_X3_firstTwoMeetings_17, hs, show 10 * i + j + (i + 12 - j) = 11 * (i + 1) + 1 by omega, ← a2]
    simp (disch := omega) only [hC'.1.1, gp_lt, show ¬ j < g by omega, if_false]
  | succ c ih =>
    intro j f m hj hf hij hI
    obtain ⟨f, rfl⟩ : ∃ f', f = f' + 1 := ⟨f - 1, by omega⟩
    have hjg : j < g := by omega
    have hC' := hI.cC hC
    have hcn := gp_cnL hC' o hi hjg hij
    have htw := gp_two_is (G := G) hij hjg hg
    rw [L_X3_firstTwoMeetings_17]
    by_cases c1' : (!G.testBit i && !G.testBit j) = true
    · rw [if_pos c1'] at hcn
      obtain ⟨m1, b1, b2, b3⟩ := gp_mtC hC' o hi hjg (by omega) (c1 := 30) (c2 := 24) (T' := T) (fun x hx => (hC'.2.1 x hx).2.2)
      have hC1 : gp_cC m1 g d K Wt T G l S := hC'.fr (b2.1 7 (by omega)) (b2.1 27 (by omega)) (b2.1 28 (by omega)) (b2.1 30 (by omega)) (b2.1 31 (by omega))
      obtain ⟨m2, d1, d2⟩ := gp_fmL hn hC1 o (c1 := 24) (c2 := 25) (by omega) (T' := gp_mt K T i j) (fun x hx => ⟨b3 x hx, gp_mt_lt hi hjg (fun y hy => (o.2.2.1 y hy).2.2.1) x hx⟩)
      have hI2 : gp_fm4 m0 m2 := ⟨fun x x1 x2 x3 x4 x5 => by rw [d2.1 x x1 x2 x3 x5, b2.1 x x4]; exact hI.1 x x1 x2 x3 x4 x5, by rw [d2.2, b2.2]; exact hI.2⟩
      have hq : gp_q2 g K G l T (10 * i + j) = !decide (gp_m1 g K G l (gp_mt K T i j) = -nI 9) := by
        unfold gp_q2
        rw [htw, c1', show (10 * i + j) / 10 = i by omega, show (10 * i + j) % 10 = j by omega]
        rfl
      have hv : gp_v2 g K G l T (10 * i + j) = nI 100 * nI (10 * i + j) + gp_m1 g K G l (gp_mt K T i j) := by
        unfold gp_v2
        rw [show (10 * i + j) / 10 = i by omega, show (10 * i + j) % 10 = j by omega]
      by_cases hca : gp_m1 g K G l (gp_mt K T i j) = -nI 9
      · have hq' : gp_q2 g K G l T (10 * i + j) = false := by rw [hq]; simp [hca]
        obtain ⟨m3, e1, e2⟩ := ih (j + 1) f m2 (by omega) (by omega) (by omega) hI2
        refine ⟨m3, e1, ?_⟩
        rw [gp_W_miss (by omega) hq']
        simp (disch := omega) only [hC'.1.1, gp_lt, hjg, if_true, hcn, gp_bs, gp_lit, gp_eq, Nat.one_ne_zero, if_false, b1, d1, if_pos hca, nI_add]
        exact e2
      · have hq' : gp_q2 g K G l T (10 * i + j) = true := by rw [hq]; simp [hca]
        refine ⟨m2, hI2, ?_⟩
        rw [gp_W_hit (by omega) hq', hv]
        simp (disch := omega) only [hC'.1.1, gp_lt, hjg, if_true, hcn, gp_bs, gp_lit, gp_eq, Nat.one_ne_zero, if_false, b1, d1, if_neg hca, pk_mul, nI_add]
    · rw [if_neg c1'] at hcn
      have hq : gp_q2 g K G l T (10 * i + j) = false := by
        unfold gp_q2
        rw [htw]
        simp only [c1']
        rfl
      obtain ⟨m3, e1, e2⟩ := ih (j + 1) f m (by omega) (by omega) (by omega) hI
      refine ⟨m3, e1, ?_⟩
      rw [gp_W_miss (by omega) hq]
      simp (disch := omega) only [hC'.1.1, gp_lt, hjg, if_true, hcn, gp_bs, gp_lit, nI_add]
      exact e2
theorem gp_ftL {n : Nat} (hn : 5000 ≤ n) {m0 : gn_M} (hC : gp_cC m0 g d K Wt T G l S) (o : gp_ok g d K Wt T G l S) : ∃ m', f_X3_firstTwoMeetings n m0 = some (gp_m2 g K G l T, m') ∧ gp_fm4 m0 m' := by
  have hg := o.g7
  have key : ∀ c i f m, i + c = g → c < f → gp_fm4 m0 m → ∃ m', gp_fm4 m0 m' ∧ L_X3_firstTwoMeetings_2 n (fun (m5 : gn_M) => some ((-9 : Int32), m5)) f (nI i) m = some (gp_W (gp_q2 g K G l T) (gp_v2 g K G l T) (11 * i + 1), m') := by
    intro c
    induction c with
    | zero =>
      intro i f m hi hf hI
      obtain ⟨f, rfl⟩ : ∃ f', f = f' + 1 := ⟨f - 1, by omega⟩
      have hC' := hI.cC hC
      have hs := gp_W_skip (Q := gp_q2 g K G l T) (v := gp_v2 g K G l T) (a := 11 * i + 1) (99 - 11 * i) (by omega) (fun x h1 h2 => by
        unfold gp_q2
        rw [gp_two_no (by omega)]
        rfl)
      refine ⟨m, hI, ?_⟩
      rw [L_X3_firstTwoMeetings_2, hs, show 11 * i + 1 + (99 - 11 * i) = 100 by omega, gp_W_end]
      simp (disch := omega) only [hC'.1.1, gp_lt, show ¬ i < g by omega, if_false]
      rfl
    | succ c ih =>
      intro i f m hi hf hI
      obtain ⟨f, rfl⟩ : ∃ f', f = f' + 1 := ⟨f - 1, by omega⟩
      have hC' := hI.cC hC
      obtain ⟨m', a1, a2⟩ := gp_ft17 hn hC o (i := i) (by omega) (k := fun (m4 : gn_M) => L_X3_firstTwoMeetings_2 n (fun (m5 : gn_M) => some ((-9 : Int32), m5)) f (nI (i + 1)) m4) (fun m' hI' => ih (i + 1) f m' (by omega) (by omega) hI') (g - (i + 1)) (i + 1) n m (by omega) (by omega) (by omega) hI
      refine ⟨m', a1, ?_⟩
      rw [L_X3_firstTwoMeetings_2]
      rw [show 10 * i + (i + 1) = 11 * i + 1 by omega] at a2
      simp (disch := omega) only [hC'.1.1, gp_lt, show i < g by omega, if_true, gp_lit, nI_add]
      exact a2
  obtain ⟨m', a1, a2⟩ := key g 0 n m0 (by omega) (by omega) ⟨fun _ _ _ _ _ _ => rfl, rfl⟩
  refine ⟨m', ?_, a1⟩
  unfold f_X3_firstTwoMeetings gp_m2
  rw [gp_W_miss (a := 0) (by omega) (by unfold gp_q2; rw [gp_two_no (by omega)]; rfl)]
  exact a2
/-! the reference -/
def gp_wd (m : gn_M) (g : Nat) (T : Nat → Nat) : Prop := ∀ x, x < g → m.1 54 x = nI (T x)
theorem gp_ttL {n : Nat} (hn : 5000 ≤ n) (hM : gp_cM m g d K Wt T G l S) (o : gp_ok g d K Wt T G l S) : ∃ m', f_X4_takeTold n m = some m' ∧ gp_f1 54 m m' ∧ gp_wd m' g T := by
  have hg := o.g7
  have key := gp_li (Lf := fun f i m => L_X4_takeTold_2 n (fun m3 => some m3) f (nI i) m) (N := g) (I := fun i m' => gp_f1 54 m m' ∧ ∀ x, x < i → m'.1 54 x = nI (T x)) (kk := fun m => some m) (fun f i m' hi hI => ?_) (fun f m' hI => ?_) g 0 n m (by omega) (by omega) ⟨gp_f1.rfl', fun x hx => by omega⟩
  · obtain ⟨m', ⟨i1, i2⟩, e⟩ := key
    exact ⟨m', e, i1, i2⟩
  · have hM' := (hI.1.sf (by omega)).cM hM
    have et := gp_toldM hM' hg o.2.1 hi
    refine ⟨gn_up m' 54 i (nI (T i)), ⟨hI.1.up, fun x hx => ?_⟩, ?_⟩
    · rw [gp_u]
      by_cases q : x = i
      · rw [if_pos ⟨rfl, q⟩, q]
      · rw [if_neg (by omega)]
        exact hI.2 x (by omega)
    · show L_X4_takeTold_2 n _ (f + 1) (nI i) m' = _
      rw [L_X4_takeTold_2]
      simp (disch := omega) only [hM'.1.1, gp_lt, hi, if_true, et, Option.bind_some, gp_wr, gp_lit, nI_add]
  · show L_X4_takeTold_2 n _ (f + 1) (nI g) m' = _
    rw [L_X4_takeTold_2]
    have hM' := (hI.1.sf (by omega)).cM hM
    simp (disch := omega) only [hM'.1.1, gp_lt, Nat.lt_irrefl, if_false]
theorem gp_mtM (hM : gp_cM m g d K Wt T G l S) (o : gp_ok g d K Wt T G l S) {i j : Nat} (hi : i < g) (hj : j < g) (hij : i ≠ j) {T' : Nat → Nat} (hT : gp_wd m g T') : ∃ m', f_X4_meetAside m (nI i) (nI j) = some m' ∧ gp_f1 54 m m' ∧ gp_wd m' g (gp_mt K T' i j) := by
  have hg := o.g7
  obtain ⟨m9, hm9⟩ : ∃ m9, m9 = gn_up m 54 i (nI (T' i ||| gp_df (gp_tl (K j) j (T' j)) (2 ^ i))) := ⟨_, rfl⟩
  have h9 : m9.1 54 j = nI (T' j) := by rw [hm9, gp_u, if_neg (by omega)]; exact hT j hj
  refine ⟨gn_up m9 54 j (nI (T' j ||| gp_df (gp_tl (K i) i (T' i)) (2 ^ j))), ?_, ?_, fun x hx => ?_⟩
  · simp (disch := omega) only [f_X4_meetAside, gp_lit, gp_rd, (hM.2 i hi).1, (hM.2 j hj).1, hT i hi, hT j hj, gp_tB (o.2.2.1 i hi).1, gp_tB (o.2.2.1 j hj).1, Option.bind_some, gp_sh, gp_nt, gp_or, gp_wr, ← hm9, h9]
  · rw [hm9]
    exact gp_f1.rfl'.up.up
  · rw [gp_u, gp_mt]
    by_cases q : x = j
    · rw [if_pos ⟨rfl, q⟩, if_pos q]
    · rw [if_neg (by omega), if_neg q, hm9, gp_u]
      by_cases q2 : x = i
      · rw [if_pos ⟨rfl, q2⟩, if_pos q2]
      · rw [if_neg (by omega), if_neg q2]
        exact hT x hx
theorem gp_caM {n : Nat} (hn : 5000 ≤ n) (hM : gp_cM m g d K Wt T G l S) (o : gp_ok g d K Wt T G l S) {T' : Nat → Nat} (hT : gp_wd m g T') (hT2 : ∀ x, x < g → T' x < 2 ^ g) : ∃ m', f_X4_canAll n m = some (if gp_ca g K G l T' then nI 1 else nI 0, m') ∧ gp_sf m m' := by
  have hg := o.g7
  have h7 := gp_p7 hg
  have key := gp_li (Lf := fun f i m => L_X4_canAll_2 n (fun (m4 : gn_M) => (f_X4_tellWays n m4).bind (fun x5 => (f_X4_left x5).bind (fun x6 => (f_X4_ordersOf n x5 x6).bind (fun x7 => (if 0 < x7 then some ((1 : Int32), x5) else some ((0 : Int32), x5)))))) f (nI i) m) (N := g) (I := fun i m' => gp_f1 51 m m' ∧ ∀ x, x < i → m'.1 51 x = nI (gp_nm g K x (T' x))) (kk := fun (m4 : gn_M) => (f_X4_tellWays n m4).bind (fun x5 => (f_X4_left x5).bind (fun x6 => (f_X4_ordersOf n x5 x6).bind (fun x7 => (if 0 < x7 then some ((1 : Int32), x5) else some ((0 : Int32), x5)))))) (fun f i m' hi hI => ?_) (fun f m' hI => ?_) g 0 n m (by omega) (by omega) ⟨gp_f1.rfl', fun x hx => by omega⟩
  · obtain ⟨m', ⟨i1, i2⟩, e⟩ := key
    have hM' := (i1.sf (by omega)).cM hM
    obtain ⟨m2, b1, b2, b3⟩ := gp_twL hn hM' o (nm := fun j => gp_nm g K j (T' j)) (fun j hj => ⟨i2 j hj, gp_nm_lt hj (hT2 j hj)⟩)
    have hM2 := (b2.sf (by omega)).cM hM'
    have el := gp_leftM hM2 o
    have eo := gp_ooL hn hM2 hg b3 (gp_lf_lt g G)
    have hNl := gp_N_lt (A := gp_A (gp_lf g G) l (fun j => gp_nm g K j (T' j))) (s := gp_lf g G) (i := 7) hg (gp_lf_lt g G)
    refine ⟨m2, ?_, (i1.sf (by omega)).tr (b2.sf (by omega))⟩
    refine Eq.trans e ?_
    show (f_X4_tellWays n m').bind _ = _
    rw [b1, gp_bs, el, gp_bs, eo, gp_bs]
    unfold gp_ca
    by_cases c : 0 < gp_N g (gp_A (gp_lf g G) l (fun j => gp_nm g K j (T' j))) (gp_lf g G) 7
    · simp (disch := omega) only [gp_lit, gp_lt, c, if_true, decide_true]
    · simp (disch := omega) only [gp_lit, gp_lt, c, if_false, decide_false, Bool.false_eq_true]
  · have hM' := (hI.1.sf (by omega)).cM hM
    have en := gp_namesBy hn hM' hg (fun i hi => (o.2.2.1 i hi).1) (i := i) (t := T' i) hi
    have e54 : m'.1 54 i = nI (T' i) := by rw [hI.1.1 54 (by omega)]; exact hT i hi
    refine ⟨gn_up m' 51 i (nI (gp_nm g K i (T' i))), ⟨hI.1.up, fun x hx => ?_⟩, ?_⟩
    · rw [gp_u]
      by_cases q : x = i
      · rw [if_pos ⟨rfl, q⟩, q]
      · rw [if_neg (by omega)]
        exact hI.2 x (by omega)
    · show L_X4_canAll_2 n _ (f + 1) (nI i) m' = _
      rw [L_X4_canAll_2]
      simp (disch := omega) only [hM'.1.1, gp_lt, hi, if_true, gp_rd, e54, en, Option.bind_some, gp_wr, gp_lit, nI_add]
  · show L_X4_canAll_2 n _ (f + 1) (nI g) m' = _
    rw [L_X4_canAll_2]
    have hM' := (hI.1.sf (by omega)).cM hM
    simp (disch := omega) only [hM'.1.1, gp_lt, Nat.lt_irrefl, if_false]
theorem gp_twoM (hM : gp_cM m g d K Wt T G l S) (o : gp_ok g d K Wt T G l S) {a : Nat} (ha : a < 100) : f_X4_areTwo m (nI a) = some (if gp_two g G a then nI 1 else nI 0) := by
  have hg := o.g7
  have h7 := gp_p7 hg
  have el := gp_leftM hM o
  have hLl := gp_lf_lt g G
  have ed : nI a / nI 10 = nI (a / 10) := pk_div (by omega) (by omega) (by omega)
  have er : nI a - nI (a / 10) * nI 10 = nI (a % 10) := by
    rw [← ed]
    exact pk_rem (by omega) (by omega) (by omega)
  unfold gp_two
  by_cases c1 : a / 10 < a % 10
  · by_cases c2 : a % 10 < g
    · have t1 := gp_lf_tb g G (a / 10)
      have t2 := gp_lf_tb g G (a % 10)
      rw [show decide (a / 10 < g) = true from decide_eq_true (by omega)] at t1
      rw [show decide (a % 10 < g) = true from decide_eq_true (by omega)] at t2
      have hh1 := gp_has (s := gp_lf g G) (i := a / 10) (by omega) (by omega)
      have hh2 := gp_has (s := gp_lf g G) (i := a % 10) (by omega) (by omega)
      rw [t1] at hh1
      rw [t2] at hh2
      cases d1 : G.testBit (a / 10) <;> cases d2 : G.testBit (a % 10) <;> rw [d1] at hh1 <;> rw [d2] at hh2 <;> simp (disch := omega) [f_X4_areTwo, gp_lit, ed, er, gp_lt, c1, hM.1.1, c2, el, hh1, hh2, gp_eq]
    · simp (disch := omega) [f_X4_areTwo, gp_lit, ed, er, gp_lt, c1, hM.1.1, c2]
  · simp (disch := omega) [f_X4_areTwo, gp_lit, ed, er, gp_lt, c1]
end GPMG
