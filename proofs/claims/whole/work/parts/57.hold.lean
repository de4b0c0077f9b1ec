/-! PURE: hold, worth -/
theorem gp_sf.up {m m' : gn_M} {k i : Nat} {v : Int32} (h : gp_sf m m') : gp_sf (gn_up m k i v) (gn_up m' k i v) := by
  refine ⟨fun c hc => ?_, h.2⟩
  funext x
  rw [gp_u, gp_u, h.1 c hc]
section GPY
variable {m m' : gn_M} {g d : Nat} {K Wt T : Nat → Nat} {G l S : Nat} {nm : Nat → Nat} {A : Nat → Nat → Bool}
theorem gp_sf_told {m2 m5 : gn_M} (h : gp_rel m) {v : Int32} (h1 : gp_sf m m2) (h2 : gp_sf (gn_up m2 0 10 v) m5) : gp_rel (gn_up m5 38 2 v) := ((h1.up (k := 0) (i := 10) (v := v)).tr h2).up.rel (gp_rel_told h v)
theorem gp_toldT (hC : gp_cC m g d K Wt T G l S) (o : gp_ok g d K Wt T G l S) : ∀ j, j < g → m.1 30 j = nI (T j) ∧ T j < 2 ^ g := fun j hj => ⟨(hC.2.1 j hj).2.2, (o.2.2.1 j hj).2.2.1⟩
/-- the class looks the road over -/
theorem gp_svT {n : Nat} (hn : 5000 ≤ n) (hC : gp_cC m g d K Wt T G l S) (o : gp_ok g d K Wt T G l S) : ∃ m', f_X1_survey n m 30 = some m' ∧ gp_sf m m' ∧ gp_rC m' g (gp_lf g G) (gp_O g (gp_lf g G) l (fun j => gp_nm g K j (T j))) (gp_af g (fun j => gp_nm g K j (T j))) ∧ gp_s34 m' g (gp_lf g G) (gp_A (gp_lf g G) l (fun j => gp_nm g K j (T j))) := by
  obtain ⟨m1, a1, a2, a3, a4, a5⟩ := gp_svL hn hC o (c := 30) (by decide) (by decide) (gp_toldT hC o)
  exact ⟨m1, a1, ⟨fun c hc => a2 c (by omega) (by omega) (by omega), a3⟩, a4, a5⟩
theorem gp_rkT {n : Nat} (hn : 5000 ≤ n) {L O : Nat} {af : Nat → Nat} (h : gp_rC m g L O af) (a : gp_rA g L O af A) (h34 : gp_s34 m g L A) : ∃ m', f_X1_rank n m = some m' ∧ gp_sf m m' ∧ gp_rC m' g L O af ∧ gp_s34 m' g L A ∧ gp_s35 m' g L A := by
  obtain ⟨m1, a1, a2, a3⟩ := gp_rkL hn h a h34
  exact ⟨m1, a1, a2.sf (by omega), h.fr (a2.1 8 (by omega)) (a2.1 33 (by omega)), by unfold gp_s34; rw [a2.1 34 (by omega)]; exact h34, a3⟩
/-- the reference tells names and ways -/
theorem gp_nwT {n : Nat} (hn : 5000 ≤ n) (hM : gp_cM m g d K Wt T G l S) (o : gp_ok g d K Wt T G l S) : ∃ m1 m', f_X4_tellNames n m = some m1 ∧ f_X4_tellWays n m1 = some m' ∧ gp_sf m m' ∧ gp_s52 m' g (gp_A (gp_lf g G) l (fun j => gp_nm g K j (T j))) := by
  obtain ⟨m1, a1, a2, a3⟩ := gp_tnL hn hM o
  obtain ⟨m2, b1, b2, b3⟩ := gp_twL hn ((a2.sf (by omega)).cM hM) o a3
  exact ⟨m1, m2, a1, b1, (a2.sf (by omega)).tr (b2.sf (by omega)), b3⟩
/-- the first of those who wait by whom it is least -/
def gp_hf (G : Nat) (E : Nat → Nat) : Nat → Int32 × Int32
  | 0 => (-nI 9, nI 8)
  | i + 1 => if G.testBit i = true then gp_hf G E i else if nI (E i) < (gp_hf G E i).2 then (nI i, nI (E i)) else gp_hf G E i
theorem op_hold {n : Nat} (hn : 5000 ≤ n) {m : gn_M} (h : gp_rel m) : ∃ r m1 m2, f_X3_hold n m = some (r, m1) ∧ f_X4_hold n m1 = some (r, m2) ∧ gp_rel m2 := by
  obtain ⟨g, d, K, Wt, T, G, l, S, o, hC, hM⟩ := h.2.2.2.now
  have hg := o.g7
  have h7 := gp_p7 hg
  by_cases g0 : g = 0
  · subst g0
    exact ⟨-4, m, m, by simp [f_X3_hold, hC.1.1, gp_lit], by simp [f_X4_hold, hM.1.1, gp_lit], h⟩
  have hA := gp_rA_is (nm := fun j => gp_nm g K j (T j)) hg (gp_lf_lt g G) o.2.2.2.2.2
  obtain ⟨m1, a1, a2, a3, a4⟩ := gp_svT hn hC o
  obtain ⟨m2, b1, b2, b3, b4, b5⟩ := gp_rkT hn a3 hA a4
  obtain ⟨L, eL⟩ : ∃ L, L = gp_lf g G := ⟨_, rfl⟩
  obtain ⟨A, eA⟩ : ∃ A, A = gp_A L l (fun j => gp_nm g K j (T j)) := ⟨_, rfl⟩
  rw [← eL] at b3 b5 hA
  rw [← eA] at b5 hA
  obtain ⟨H, eH⟩ : ∃ H, H = gp_hf G (fun i => gp_E g A (gp_df L (2 ^ i)) 7) := ⟨_, rfl⟩
  have hLl : L < 2 ^ g := by rw [eL]; exact gp_lf_lt g G
  have hC2 := (a2.tr b2).cC hC
  have lpC : ∀ k : Int32 → Int32 → Option (Int32 × gn_M), L_X3_hold_46 n m2 k n (-nI 9) (nI 8) (nI 0) = k (H g).1 (H g).2 := by
    intro k
    rw [eH]
    refine gp_lp0 (Lf := fun f i (acc : Int32 × Int32) => L_X3_hold_46 n m2 k f acc.1 acc.2 (nI i)) (N := g) (A := gp_hf G (fun i => gp_E g A (gp_df L (2 ^ i)) 7)) (fun f i hi => ?_) (fun f => ?_) (by omega)
    · show L_X3_hold_46 n m2 k (f + 1) _ _ (nI i) = _
      rw [L_X3_hold_46]
      have hw := gp_waits hC2 o (i := i) (by omega)
      have hle := gp_rm_le L i
      have e35 := b5 (gp_df L (2 ^ i)) (gp_sb_rm (fun _ z => z))
      have e6 := b3.2.1
      rw [gp_hf]
      by_cases hb : G.testBit i = true
      · simp (disch := omega) only [hC2.1.1, gp_lt, hi, if_true, hw, hb, Option.bind_some, gp_lit, nI_add]
      · by_cases hl : nI (gp_E g A (gp_df L (2 ^ i)) 7) < (gp_hf G (fun i => gp_E g A (gp_df L (2 ^ i)) 7) i).2
        · simp (disch := omega) only [hC2.1.1, gp_lt, hi, if_true, hw, hb, Option.bind_some, gp_lit, nI_add, if_false, gp_eq, Nat.one_ne_zero, e6, gp_sh, gp_nt, gp_rd, e35, hl, Bool.false_eq_true]
        · simp (disch := omega) only [hC2.1.1, gp_lt, hi, if_true, hw, hb, Option.bind_some, gp_lit, nI_add, if_false, gp_eq, Nat.one_ne_zero, e6, gp_sh, gp_nt, gp_rd, e35, hl, Bool.false_eq_true]
    · show L_X3_hold_46 n m2 k (f + 1) _ _ (nI g) = _
      rw [L_X3_hold_46]
      simp (disch := omega) only [hC2.1.1, gp_lt, Nat.lt_irrefl, if_false]
  have lpM : ∀ m5, gp_cM m5 g d K Wt T G l S → gp_s52 m5 g A → ∀ k : Int32 → Int32 → Option (Int32 × gn_M), L_X4_hold_26 n m5 k n (-nI 9) (nI 8) (nI 0) = k (H g).1 (H g).2 := by
    intro m5 hM5 h52 k
    rw [eH]
    refine gp_lp0 (Lf := fun f i (acc : Int32 × Int32) => L_X4_hold_26 n m5 k f acc.1 acc.2 (nI i)) (N := g) (A := gp_hf G (fun i => gp_E g A (gp_df L (2 ^ i)) 7)) (fun f i hi => ?_) (fun f => ?_) (by omega)
    · show L_X4_hold_26 n m5 k (f + 1) _ _ (nI i) = _
      rw [L_X4_hold_26]
      have hw := gp_thr hM5 o (i := i) (by omega)
      have el := gp_leftM hM5 o
      rw [← eL] at el
      have em := gp_moL hn hM5 hg h52 (s := gp_df L (2 ^ i)) (gp_df_lt hLl)
      rw [gp_hf]
      by_cases hb : G.testBit i = true
      · simp (disch := omega) only [hM5.1.1, gp_lt, hi, if_true, hw, hb, Option.bind_some, gp_lit, nI_add, gp_eq, Nat.one_ne_zero, if_false]
      · by_cases hl : nI (gp_E g A (gp_df L (2 ^ i)) 7) < (gp_hf G (fun i => gp_E g A (gp_df L (2 ^ i)) 7) i).2
        · simp (disch := omega) only [hM5.1.1, gp_lt, hi, if_true, hw, hb, Option.bind_some, gp_lit, nI_add, if_false, gp_eq, Nat.one_ne_zero, el, gp_sh, gp_nt, em, hl, Bool.false_eq_true]
        · simp (disch := omega) only [hM5.1.1, gp_lt, hi, if_true, hw, hb, Option.bind_some, gp_lit, nI_add, if_false, gp_eq, Nat.one_ne_zero, el, gp_sh, gp_nt, em, hl, Bool.false_eq_true]
    · show L_X4_hold_26 n m5 k (f + 1) _ _ (nI g) = _
      rw [L_X4_hold_26]
      simp (disch := omega) only [hM5.1.1, gp_lt, Nat.lt_irrefl, if_false]
  have ne0C : ¬ (m.1 7 6 = 0) := by rw [hC.1.1]; exact fun z => g0 ((gp_eq (by omega) (by decide)).mp z)
  have eC : f_X3_hold n m = (if (H g).1 = -9 then some ((-9 : Int32), m2) else some ((H g).1, gn_up m2 0 10 (H g).2)) := by
    unfold f_X3_hold
    rw [if_neg ne0C, a1, gp_bs, b1, gp_bs]
    rw [show (-9 : Int32) = -nI 9 from rfl, show (8 : Int32) = nI 8 from rfl, show (0 : Int32) = nI 0 from rfl, lpC]
    rfl
  by_cases hH : (H g).1 = -9
  · rw [if_pos hH] at eC
    have hM2 := (a2.tr b2).cM hM
    obtain ⟨m4, m5, c1, c2, c3, c4⟩ := gp_nwT hn hM2 o
    rw [← eL] at c4
    rw [← eA] at c4
    refine ⟨-9, m2, m5, eC, ?_, ((a2.tr b2).tr c3).rel h⟩
    have ne0M : ¬ (m2.1 38 10 = 0) := by rw [hM2.1.1]; exact fun z => g0 ((gp_eq (by omega) (by decide)).mp z)
    unfold f_X4_hold
    rw [if_neg ne0M, c1, gp_bs, c2, gp_bs]
    rw [show (8 : Int32) = nI 8 from rfl, show (0 : Int32) = nI 0 from rfl]
    rw [show (-9 : Int32) = -nI 9 from rfl, lpM m5 (c3.cM hM2) c4]
    rw [show -nI 9 = (-9 : Int32) from rfl, if_pos hH, hH]
  · rw [if_neg hH] at eC
    have hM2 : gp_cM (gn_up m2 0 10 (H g).2) g d K Wt T G l S := ((a2.tr b2).cM hM).fr rfl rfl rfl rfl rfl
    obtain ⟨m4, m5, c1, c2, c3, c4⟩ := gp_nwT hn hM2 o
    rw [← eL] at c4
    rw [← eA] at c4
    refine ⟨(H g).1, _, gn_up m5 38 2 (H g).2, eC, ?_, gp_sf_told h (a2.tr b2) c3⟩
    have ne0M : ¬ ((gn_up m2 0 10 (H g).2).1 38 10 = 0) := by rw [hM2.1.1]; exact fun z => g0 ((gp_eq (by omega) (by decide)).mp z)
    unfold f_X4_hold
    rw [if_neg ne0M, c1, gp_bs, c2, gp_bs]
    rw [show (8 : Int32) = nI 8 from rfl, show (0 : Int32) = nI 0 from rfl]
    rw [show (-9 : Int32) = -nI 9 from rfl, lpM m5 (c3.cM hM2) c4]
    rw [show -nI 9 = (-9 : Int32) from rfl, if_neg hH]
    rfl
end GPY
