/-! PURE: the class's road: who can follow whom, who can be first -/
theorem gp_li {σ R : Type} {Lf : Nat → Nat → σ → R} {N : Nat} {I : Nat → σ → Prop} {kk : σ → R} (h1 : ∀ f i m, i < N → I i m → ∃ m', I (i + 1) m' ∧ Lf (f + 1) i m = Lf f (i + 1) m') (h2 : ∀ f m, I N m → Lf (f + 1) N m = kk m) : ∀ (k i f : Nat) (m : σ), i + k = N → k < f → I i m → ∃ m', I N m' ∧ Lf f i m = kk m' := by
  intro k
  induction k with
  | zero =>
    intro i f m hi hf hI
    obtain ⟨g, rfl⟩ : ∃ g, f = g + 1 := ⟨f - 1, by omega⟩
    have e : i = N := by omega
    subst e
    exact ⟨m, hI, h2 g m hI⟩
  | succ k ih =>
    intro i f m hi hf hI
    obtain ⟨g, rfl⟩ : ∃ g, f = g + 1 := ⟨f - 1, by omega⟩
    obtain ⟨m', a1, a2⟩ := h1 g i m (by omega) hI
    rw [a2]
    exact ih (i + 1) g m' (by omega) (by omega) a1
/-- one cell alone is another -/
def gp_f1 (c : Nat) (m m' : gn_M) : Prop := (∀ k, k ≠ c → m'.1 k = m.1 k) ∧ m'.2 = m.2
theorem gp_f1.rfl' {c : Nat} {m : gn_M} : gp_f1 c m m := ⟨fun _ _ => rfl, rfl⟩
theorem gp_f1.up {c i : Nat} {v : Int32} {m m' : gn_M} (h : gp_f1 c m m') : gp_f1 c m (gn_up m' c i v) := ⟨fun k hk => by rw [gp_une hk]; exact h.1 k hk, h.2⟩
theorem gp_f1.tr {c : Nat} {m m' m'' : gn_M} (h : gp_f1 c m m') (h' : gp_f1 c m' m'') : gp_f1 c m m'' := ⟨fun k hk => (h'.1 k hk).trans (h.1 k hk), h'.2.trans h.2⟩
/-- none but what is looked at aside is another -/
def gp_sf (m m' : gn_M) : Prop := (∀ c, ¬ (c = 8 ∨ c = 24 ∨ c = 25 ∨ (33 ≤ c ∧ c ≤ 37) ∨ (51 ≤ c ∧ c ≤ 55)) → m'.1 c = m.1 c) ∧ m'.2 = m.2
theorem gp_sf.tr {m m' m'' : gn_M} (h : gp_sf m m') (h' : gp_sf m' m'') : gp_sf m m'' := ⟨fun k hk => (h'.1 k hk).trans (h.1 k hk), h'.2.trans h.2⟩
theorem gp_sf.rfl' {m : gn_M} : gp_sf m m := ⟨fun _ _ => rfl, rfl⟩
theorem gp_f1.sf {c : Nat} {m m' : gn_M} (h : gp_f1 c m m') (hc : c = 8 ∨ c = 24 ∨ c = 25 ∨ (33 ≤ c ∧ c ≤ 37) ∨ (51 ≤ c ∧ c ≤ 55)) : gp_sf m m' := ⟨fun k hk => h.1 k (by omega), h.2⟩
theorem gp_sf.rel {m m' : gn_M} (z : gp_sf m m') (h : gp_rel m) : gp_rel m' := by
  obtain ⟨h1, h2, ⟨a1, a2, a3, a4, a5⟩, h4⟩ := h
  refine ⟨h1.fr (fun k hk => z.1 k (by omega)), h2.fr (fun k hk => z.1 k (by omega)), ⟨?_, ?_, ?_, ?_, fun f hf => ?_⟩, h4.fr (fun k hk => z.1 k (by omega)) (by rw [z.1 38 (by omega)]) (by rw [z.1 38 (by omega)])⟩
  · rw [z.1 38 (by omega), z.1 0 (by omega)]; exact a1
  · rw [z.1 38 (by omega), z.1 0 (by omega)]; exact a2
  · rw [z.2]; exact a3
  · rw [z.2]; exact a4
  · rw [z.1 39 (by omega), z.1 26 (by omega)]; exact a5 f hf
section GPR
variable {m m' : gn_M} {g d : Nat} {K Wt T : Nat → Nat} {G l S : Nat} {L O : Nat} {af : Nat → Nat} {A : Nat → Nat → Bool}
theorem gp_sf.cC (z : gp_sf m m') (h : gp_cC m g d K Wt T G l S) : gp_cC m' g d K Wt T G l S := h.fr (z.1 7 (by omega)) (z.1 27 (by omega)) (z.1 28 (by omega)) (z.1 30 (by omega)) (z.1 31 (by omega))
theorem gp_sf.cM (z : gp_sf m m') (h : gp_cM m g d K Wt T G l S) : gp_cM m' g d K Wt T G l S := h.fr (by rw [z.1 38 (by omega)]) (by rw [z.1 38 (by omega)]) (z.1 45 (by omega)) (z.1 46 (by omega)) (z.1 48 (by omega))
/-- the road: its goers, who are left, to whom it opens, who can follow whom -/
def gp_rC (m : gn_M) (g L O : Nat) (af : Nat → Nat) : Prop := m.1 8 5 = nI g ∧ m.1 8 6 = nI L ∧ m.1 8 7 = nI O ∧ ∀ i, i < g → m.1 33 i = nI (af i)
theorem gp_rC.fr (h : gp_rC m g L O af) (e8 : m'.1 8 = m.1 8) (e33 : m'.1 33 = m.1 33) : gp_rC m' g L O af := by
  unfold gp_rC
  rw [e8, e33]
  exact h
def gp_rA (g L O : Nat) (af : Nat → Nat) (A : Nat → Nat → Bool) : Prop := g ≤ 7 ∧ L < 2 ^ g ∧ O < 2 ^ g ∧ (∀ i, i < g → af i < 2 ^ g) ∧ (∀ i j, i < g → j < g → L.testBit j = true → (af i).testBit j = A i j) ∧ (∀ j, j < g → O.testBit j = A 7 j) ∧ (∀ i j, A i j = true → L.testBit j = true)
theorem gp_df0 {a b : Nat} : gp_df a b = 0 ↔ gp_sb a b := by
  rw [gp_z]
  constructor
  · intro h j hj
    have := h j
    rw [gp_df_tb, hj] at this
    revert this
    cases b.testBit j <;> simp
  · intro h j
    have := h j
    rw [gp_df_tb]
    revert this
    cases a.testBit j <;> cases b.testBit j <;> simp
theorem gp_df_le (a b : Nat) : gp_df a b ≤ a := by
  apply Nat.le_of_testBit
  intro j
  rw [gp_df_tb]
  cases a.testBit j <;> simp
theorem gp_wi (h : gp_rC m g L O af) {s : Nat} (hs : s < 2147483648) : f_X1_within m (nI s) = some (if gp_df s L = 0 then nI 1 else nI 0) := by
  have := gp_df_le s L
  have e := h.2.1
  simp (disch := omega) only [f_X1_within, gp_lit, e, gp_nt, gp_eq]
  split <;> rfl
/-- who can be the first of all of a set -/
def gp_st (g : Nat) (A : Nat → Nat → Bool) (t : Nat) : Nat := gp_bs1 (fun i => t.testBit i && decide (0 < gp_N g A (gp_df t (2 ^ i)) i)) g
theorem gp_stN {r B i : Nat} (h0 : r ≠ 0) (hB : ∀ j, j < g → r.testBit j = true → B.testBit j = A i j) : (gp_st g A r &&& B = 0) ↔ ¬ 0 < gp_N g A r i := by
  rw [gp_N_pos h0, gp_z]
  constructor
  · rintro z ⟨j, j1, j2, j3, j4⟩
    have := z j
    rw [Nat.testBit_and, gp_st, gp_bs1_tb, hB j j1 j2, j3] at this
    simp [j1, j2] at this
    omega
  · intro z j
    rw [Nat.testBit_and, gp_st, gp_bs1_tb]
    by_cases j1 : j < g
    · by_cases j2 : r.testBit j = true
      · rw [hB j j1 j2]
        by_cases j3 : A i j = true
        · by_cases j4 : 0 < gp_N g A (gp_df r (2 ^ j)) j
          · exact absurd ⟨j, j1, j2, j3, j4⟩ z
          · simp [j4]
        · simp [j3]
      · simp [j2]
    · simp [j1]
theorem gp_sb_rm {s t i : Nat} (h : gp_sb s t) : gp_sb (gp_df s (2 ^ i)) t := by
  intro j hj
  rw [gp_rm_tb] at hj
  apply h
  revert hj
  cases s.testBit j <;> simp
theorem gp_stL {n : Nat} (hn : 5000 ≤ n) (h : gp_rC m g L O af) (a : gp_rA g L O af A) {s : Nat} (h0 : s ≠ 0) (hs : gp_sb s L) (ht : ∀ t, t < s → t ≠ 0 → gp_sb t L → m.1 34 t = nI (gp_st g A t)) : f_X1_startersOf n m (nI s) = some (nI (gp_st g A s)) := by
  unfold f_X1_startersOf
  have hg := a.1
  have h7 := gp_p7 hg
  have hL := a.2.1
  have hsL := gp_sb_le hs
  have e := h.1
  refine gp_lp0 (Lf := fun f i (acc : Int32) => L_X1_startersOf_4 n m (nI s) (fun e => some e) f acc (nI i)) (N := g) (A := fun i => nI (gp_bs1 (fun i => s.testBit i && decide (0 < gp_N g A (gp_df s (2 ^ i)) i)) i)) (fun f i hi => ?_) (fun f => ?_) (by omega)
  · show L_X1_startersOf_4 n m (nI s) _ (f + 1) _ (nI i) = _
    rw [L_X1_startersOf_4]
    have hlt : gp_df s (2 ^ i) < 128 := by have := gp_rm_le s i; omega
    by_cases hb : s.testBit i = true
    · by_cases hz : gp_df s (2 ^ i) = 0
      · have hN : 0 < gp_N g A (gp_df s (2 ^ i)) i := by rw [hz, gp_N0]; decide
        simp (disch := omega) only [gp_lit, e, gp_lt, hi, if_true, gp_isIn, gp_bs, hb, gp_eq, Nat.one_ne_zero, if_false, gp_sh, gp_nt, gp_or, nI_add, gp_bs1, hN, decide_true, Bool.and_self]
        rw [if_pos hz]
      · have e34 := ht (gp_df s (2 ^ i)) (gp_rm_less hb) hz (gp_sb_rm hs)
        have e33 := h.2.2.2 i hi
        have hN := gp_stN (g := g) (A := A) (r := gp_df s (2 ^ i)) (B := af i) (i := i) hz (fun j hj hr => a.2.2.2.2.1 i j hi hj (gp_sb_rm hs j hr))
        have hlt2 : (gp_st g A (gp_df s (2 ^ i)) &&& af i) < 2147483648 := by
          have q1 : (gp_st g A (gp_df s (2 ^ i)) &&& af i) ≤ af i := Nat.and_le_right
          have q2 := a.2.2.2.1 i hi
          omega
        simp (disch := omega) only [gp_lit, e, gp_lt, hi, if_true, gp_isIn, gp_bs, hb, gp_eq, Nat.one_ne_zero, if_false, gp_sh, gp_sh2, gp_nt, gp_or, nI_add, hz, gp_rd, e34, e33, gp_and, gp_eq hlt2]
        by_cases hp : 0 < gp_N g A (gp_df s (2 ^ i)) i
        · rw [if_neg (fun z => hN.mp z hp)]
          simp only [gp_bs1, hb, hp, decide_true, Bool.and_self, if_true]
        · rw [if_pos (hN.mpr hp)]
          simp only [gp_bs1, hb, hp, decide_false, Bool.and_false]
          rfl
    · simp (disch := omega) [gp_lit, e, gp_lt, hi, gp_isIn, hb, nI_add, gp_bs1]
  · show L_X1_startersOf_4 n m (nI s) _ (f + 1) _ (nI g) = _
    rw [L_X1_startersOf_4]
    simp (disch := omega) only [e, gp_lt, Nat.lt_irrefl, if_false]
    rfl
def gp_s34 (m : gn_M) (g L : Nat) (A : Nat → Nat → Bool) : Prop := ∀ t, t ≠ 0 → gp_sb t L → m.1 34 t = nI (gp_st g A t)
theorem gp_chL {n : Nat} (hn : 5000 ≤ n) (h : gp_rC m g L O af) (a : gp_rA g L O af A) : ∃ m', f_X1_chain n m = some m' ∧ gp_f1 34 m m' ∧ gp_s34 m' g L A := by
  have hg := a.1
  have h7 := gp_p7 hg
  have hL := a.2.1
  have key := gp_li (Lf := fun f i m => L_X1_chain_2 n (fun m4 => some m4) f (nI i) m) (N := L + 1) (I := fun i m' => gp_f1 34 m m' ∧ (∀ t, t < i → t ≠ 0 → gp_sb t L → m'.1 34 t = nI (gp_st g A t)) ∧ i ≠ 0) (kk := fun m => some m) (fun f i m' hi hI => ?_) (fun f m' hI => ?_) L 1 n m (by omega) (by omega) ⟨gp_f1.rfl', fun t ht h0 => by omega, by decide⟩
  · obtain ⟨m', ⟨i1, i2, -⟩, e⟩ := key
    exact ⟨m', e, i1, fun t h0 ht => i2 t (by have := gp_sb_le ht; omega) h0 ht⟩
  · have h' := h.fr (hI.1.1 8 (by omega)) (hI.1.1 33 (by omega))
    have e6 := h'.2.1
    have hw := gp_wi h' (s := i) (by omega)
    by_cases hz : gp_df i L = 0
    · rw [if_pos hz] at hw
      have hs := gp_stL hn h' a hI.2.2 (gp_df0.mp hz) (fun t ht h0 hs => hI.2.1 t ht h0 hs)
      refine ⟨gn_up m' 34 i (nI (gp_st g A i)), ⟨hI.1.up, fun t ht h0 hs => ?_, by omega⟩, ?_⟩
      · rw [gp_u]
        by_cases q : t = i
        · rw [if_pos ⟨rfl, q⟩, q]
        · rw [if_neg (by omega)]
          exact hI.2.1 t (by omega) h0 hs
      · show L_X1_chain_2 n _ (f + 1) (nI i) m' = _
        rw [L_X1_chain_2]
        simp (disch := omega) only [e6, gp_lt, show ¬ L < i by omega, if_false, hw, Option.bind_some, gp_lit, gp_eq, Nat.one_ne_zero, hs, gp_wr, nI_add]
    · rw [if_neg hz] at hw
      refine ⟨m', ⟨hI.1, fun t ht h0 hs => ?_, by omega⟩, ?_⟩
      · by_cases q : t = i
        · rw [q] at hs
          exact absurd (gp_df0.mpr hs) hz
        · exact hI.2.1 t (by omega) h0 hs
      · show L_X1_chain_2 n _ (f + 1) (nI i) m' = _
        rw [L_X1_chain_2]
        simp (disch := omega) only [e6, gp_lt, show ¬ L < i by omega, if_false, hw, Option.bind_some, gp_lit, if_true, nI_add]
  · show L_X1_chain_2 n _ (f + 1) (nI (L + 1)) m' = _
    rw [L_X1_chain_2]
    have e6 := (h.fr (hI.1.1 8 (by omega)) (hI.1.1 33 (by omega))).2.1
    simp (disch := omega) only [e6, gp_lt, Nat.lt_succ_self, if_true]
/-- whether just these can go through -/
theorem gp_ctL (h : gp_rC m g L O af) (a : gp_rA g L O af A) (h34 : gp_s34 m g L A) {s : Nat} (hs : s < 2 ^ g) : f_X1_comesThrough m (nI s) = some (if 0 < gp_N g A s 7 then nI 1 else nI 0) := by
  have hg := a.1
  have h7 := gp_p7 hg
  have hw := gp_wi h (s := s) (by omega)
  by_cases hz : gp_df s L = 0
  · rw [if_pos hz] at hw
    by_cases h0 : s = 0
    · subst h0
      rw [if_pos (by rw [gp_N0]; decide)]
      simp (disch := omega) [f_X1_comesThrough, hw, gp_lit, gp_eq]
    · have hsb := gp_df0.mp hz
      have e34 := h34 s h0 hsb
      have hN := gp_stN (g := g) (A := A) (r := s) (B := O) (i := 7) h0 (fun j hj hr => a.2.2.2.2.2.1 j hj)
      have e7 := h.2.2.1
      have hlt2 : (gp_st g A s &&& O) < 2147483648 := by
        have q1 : (gp_st g A s &&& O) ≤ O := Nat.and_le_right
        have q2 := a.2.2.1
        omega
      simp (disch := omega) only [f_X1_comesThrough, hw, gp_lit, gp_eq, Option.bind_some, Nat.one_ne_zero, if_false, h0, gp_rd, e34, e7, gp_and, gp_eq hlt2]
      by_cases hp : 0 < gp_N g A s 7
      · rw [if_neg (fun z => hN.mp z hp), if_pos hp]
      · rw [if_pos (hN.mpr hp), if_neg hp]
  · rw [if_neg hz] at hw
    have hp : ¬ 0 < gp_N g A s 7 := fun hp => hz (gp_df0.mpr (fun j hj => gp_N_in a.2.2.2.2.2.2 s 7 hs hp j hj))
    simp (disch := omega) [f_X1_comesThrough, hw, gp_lit, gp_eq, hp]
/-- the most of a set, without one -/
theorem gp_bwL {n : Nat} (hn : 5000 ≤ n) (h : gp_rC m g L O af) (a : gp_rA g L O af A) {s : Nat} (hs : gp_sb s L) (ht : ∀ t, t < s → gp_sb t L → m.1 35 t = nI (gp_E g A t 7)) : f_X1_bestWithoutOne n m (nI s) = some (nI (gp_mx (fun j => if s.testBit j = true then gp_E g A (gp_df s (2 ^ j)) 7 else 0) g)) := by
  unfold f_X1_bestWithoutOne
  have hg := a.1
  have h7 := gp_p7 hg
  have hL := a.2.1
  have hsL := gp_sb_le hs
  have e := h.1
  have hE : ∀ j, gp_E g A (gp_df s (2 ^ j)) 7 ≤ 8 := fun j => Nat.le_trans (gp_E_le hg (gp_df_lt (by omega))) (gp_po_le _)
  have hm : ∀ i, gp_mx (fun j => if s.testBit j = true then gp_E g A (gp_df s (2 ^ j)) 7 else 0) i ≤ 8 := by
    intro i
    rcases gp_mx_is (f := fun j => if s.testBit j = true then gp_E g A (gp_df s (2 ^ j)) 7 else 0) (n := i) with q | ⟨j, -, q⟩
    · omega
    · rw [q]
      split
      · exact hE j
      · omega
  refine gp_lp0 (Lf := fun f i (acc : Int32) => L_X1_bestWithoutOne_4 n m (nI s) (fun e => some e) f acc (nI i)) (N := g) (A := fun i => nI (gp_mx (fun j => if s.testBit j = true then gp_E g A (gp_df s (2 ^ j)) 7 else 0) i)) (fun f i hi => ?_) (fun f => ?_) (by omega)
  · show L_X1_bestWithoutOne_4 n m (nI s) _ (f + 1) _ (nI i) = _
    rw [L_X1_bestWithoutOne_4]
    have hlt : gp_df s (2 ^ i) < 128 := by have := gp_rm_le s i; omega
    have hmi := hm i
    have hEi := hE i
    by_cases hb : s.testBit i = true
    · have e35 := ht (gp_df s (2 ^ i)) (gp_rm_less hb) (gp_sb_rm hs)
      simp (disch := omega) only [gp_lit, e, gp_lt, hi, if_true, gp_isIn, gp_bs, hb, gp_eq, Nat.one_ne_zero, if_false, gp_sh, gp_nt, gp_rd, e35, nI_add, gp_mx]
      split <;> rfl
    · simp (disch := omega) [gp_lit, e, gp_lt, hi, gp_isIn, hb, nI_add, gp_mx]
  · show L_X1_bestWithoutOne_4 n m (nI s) _ (f + 1) _ (nI g) = _
    rw [L_X1_bestWithoutOne_4]
    simp (disch := omega) only [e, gp_lt, Nat.lt_irrefl, if_false]
def gp_s35 (m : gn_M) (g L : Nat) (A : Nat → Nat → Bool) : Prop := ∀ t, gp_sb t L → m.1 35 t = nI (gp_E g A t 7)
theorem gp_E0 {i : Nat} (hg : g ≤ 7) : gp_E g A 0 i = 0 := by
  have := gp_E_le (A := A) (i := i) hg (Nat.two_pow_pos g)
  have e : gp_po 0 = 0 := by decide
  omega
theorem gp_rkL {n : Nat} (hn : 5000 ≤ n) (h : gp_rC m g L O af) (a : gp_rA g L O af A) (h34 : gp_s34 m g L A) : ∃ m', f_X1_rank n m = some m' ∧ gp_f1 35 m m' ∧ gp_s35 m' g L A := by
  have hg := a.1
  have h7 := gp_p7 hg
  have hL := a.2.1
  have key := gp_li (Lf := fun f i m => L_X1_rank_9 n (fun m4 => some m4) f (nI i) m) (N := L + 1) (I := fun i m' => gp_f1 35 m m' ∧ (∀ t, t < i → gp_sb t L → m'.1 35 t = nI (gp_E g A t 7)) ∧ i ≠ 0) (kk := fun m => some m) (fun f i m' hi hI => ?_) (fun f m' hI => ?_) L 1 n (gn_up m 35 0 (nI 0)) (by omega) (by omega) ⟨gp_f1.rfl'.up, fun t ht h0 => ?_, by decide⟩
  · obtain ⟨m', ⟨i1, i2, -⟩, e⟩ := key
    refine ⟨m', ?_, i1, fun t ht => i2 t (by have := gp_sb_le ht; omega) ht⟩
    unfold f_X1_rank
    rw [gp_lit 0, gp_wr (by decide) (by decide)]
    exact e
  · have h' := h.fr (hI.1.1 8 (by omega)) (hI.1.1 33 (by omega))
    have h34' : gp_s34 m' g L A := by unfold gp_s34; rw [hI.1.1 34 (by omega)]; exact h34
    have e6 := h'.2.1
    have hw := gp_wi h' (s := i) (by omega)
    have hc := gp_ctL h' a h34' (s := i) (by omega)
    have er := gp_E_rank (A := A) (i := 7) (s := i) hg (by omega)
    have hup : ∀ x, gp_sb i L → x = nI (gp_E g A i 7) → ∀ t, t < i + 1 → gp_sb t L → (gn_up m' 35 i x).1 35 t = nI (gp_E g A t 7) := by
      intro x hi hx t ht hs
      rw [gp_u]
      by_cases q : t = i
      · rw [if_pos ⟨rfl, q⟩, q]; exact hx
      · rw [if_neg (by omega)]
        exact hI.2.1 t (by omega) hs
    by_cases hp : 0 < gp_N g A i 7
    · rw [if_pos hp] at hc er
      have hb := gp_bc i (by omega)
      have hsb : gp_sb i L := fun j hj => gp_N_in a.2.2.2.2.2.2 i 7 (by omega) hp j hj
      refine ⟨gn_up m' 35 i (nI (gp_po i)), ⟨hI.1.up, hup _ hsb (by rw [er]), by omega⟩, ?_⟩
      show L_X1_rank_9 n _ (f + 1) (nI i) m' = _
      rw [L_X1_rank_9]
      simp (disch := omega) only [e6, gp_lt, show ¬ L < i by omega, if_false, hc, Option.bind_some, gp_lit, gp_eq, Nat.one_ne_zero, hb, gp_wr, nI_add]
    · rw [if_neg hp] at hc er
      by_cases hz : gp_df i L = 0
      · rw [if_pos hz] at hw
        have hs := gp_bwL hn h' a (gp_df0.mp hz) (fun t ht hs => hI.2.1 t ht hs)
        rw [← er] at hs
        refine ⟨gn_up m' 35 i (nI (gp_E g A i 7)), ⟨hI.1.up, hup _ (gp_df0.mp hz) rfl, by omega⟩, ?_⟩
        show L_X1_rank_9 n _ (f + 1) (nI i) m' = _
        rw [L_X1_rank_9]
        simp (disch := omega) only [e6, gp_lt, show ¬ L < i by omega, if_false, if_true, hc, hw, Option.bind_some, gp_lit, gp_eq, Nat.one_ne_zero, hs, gp_wr, nI_add]
      · rw [if_neg hz] at hw
        refine ⟨m', ⟨hI.1, fun t ht hs => ?_, by omega⟩, ?_⟩
        · by_cases q : t = i
          · rw [q] at hs
            exact absurd (gp_df0.mpr hs) hz
          · exact hI.2.1 t (by omega) hs
        · show L_X1_rank_9 n _ (f + 1) (nI i) m' = _
          rw [L_X1_rank_9]
          simp (disch := omega) only [e6, gp_lt, show ¬ L < i by omega, if_false, hc, hw, Option.bind_some, gp_lit, if_true, nI_add]
  · show L_X1_rank_9 n _ (f + 1) (nI (L + 1)) m' = _
    rw [L_X1_rank_9]
    have e6 := (h.fr (hI.1.1 8 (by omega)) (hI.1.1 33 (by omega))).2.1
    simp (disch := omega) only [e6, gp_lt, Nat.lt_succ_self, if_true]
  · have : t = 0 := by omega
    subst this
    rw [gp_E0 hg]
    rfl
end GPR
