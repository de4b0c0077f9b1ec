/-! PURE: worth, orders -/
section GPZ
variable {m m' : gn_M} {g d : Nat} {K Wt T : Nat → Nat} {G l S : Nat} {nm : Nat → Nat} {A : Nat → Nat → Bool} {L O : Nat} {af : Nat → Nat}
def gp_wo (g : Nat) (Wt : Nat → Nat) (s : Nat) : Nat := gp_su (fun i => if s.testBit i = true then Wt i else 0) g
theorem gp_woC {n : Nat} (hn : 5000 ≤ n) (hC : gp_cC m g d K Wt T G l S) (hg : g ≤ 7) {s : Nat} (hs : s < 2 ^ g) : f_X0_worthOf n m (nI s) = some (nI (gp_wo g Wt s)) := by
  have h7 := gp_p7 hg
  unfold f_X0_worthOf gp_wo
  refine gp_lp0 (Lf := fun f i (acc : Int32) => L_X0_worthOf_4 n m (nI s) (fun e => some e) f acc (nI i)) (N := g) (A := fun i => nI (gp_su (fun i => if s.testBit i = true then Wt i else 0) i)) (fun f i hi => ?_) (fun f => ?_) (by omega)
  · show L_X0_worthOf_4 n m (nI s) _ (f + 1) _ (nI i) = _
    rw [L_X0_worthOf_4]
    by_cases hb : s.testBit i = true
    · simp (disch := omega) only [hC.1.1, gp_lt, hi, if_true, gp_isIn, hb, gp_bs, gp_lit, gp_eq, Nat.one_ne_zero, if_false, gp_rd, (hC.2.1 i hi).2.1, nI_add, gp_su]
    · simp (disch := omega) only [hC.1.1, gp_lt, hi, if_true, gp_isIn, hb, gp_bs, gp_lit, if_false, nI_add, gp_su, Bool.false_eq_true, Nat.add_zero]
  · show L_X0_worthOf_4 n m (nI s) _ (f + 1) _ (nI g) = _
    rw [L_X0_worthOf_4]
    simp (disch := omega) only [hC.1.1, gp_lt, Nat.lt_irrefl, if_false]
theorem gp_woM {n : Nat} (hn : 5000 ≤ n) (hM : gp_cM m g d K Wt T G l S) (hg : g ≤ 7) {s : Nat} (hs : s < 2 ^ g) : f_X4_worthOf n m (nI s) = some (nI (gp_wo g Wt s)) := by
  have h7 := gp_p7 hg
  unfold f_X4_worthOf gp_wo
  refine gp_lp0 (Lf := fun f i (acc : Int32) => L_X4_worthOf_4 n m (nI s) (fun e => some e) f acc (nI i)) (N := g) (A := fun i => nI (gp_su (fun i => if s.testBit i = true then Wt i else 0) i)) (fun f i hi => ?_) (fun f => ?_) (by omega)
  · show L_X4_worthOf_4 n m (nI s) _ (f + 1) _ (nI i) = _
    rw [L_X4_worthOf_4]
    by_cases hb : s.testBit i = true
    · simp (disch := omega) only [hM.1.1, gp_lt, hi, if_true, gp_has, hb, gp_bs, gp_lit, gp_eq, Nat.one_ne_zero, if_false, gp_rd, (hM.2 i hi).2.1, nI_add, gp_su]
    · simp (disch := omega) only [hM.1.1, gp_lt, hi, if_true, gp_has, hb, gp_bs, gp_lit, if_false, nI_add, gp_su, Bool.false_eq_true, Nat.add_zero]
  · show L_X4_worthOf_4 n m (nI s) _ (f + 1) _ (nI g) = _
    rw [L_X4_worthOf_4]
    simp (disch := omega) only [hM.1.1, gp_lt, Nat.lt_irrefl, if_false]
/-- the dearest, the fewest -/
def gp_wf (N w p : Nat → Nat) : Nat → Int32 × Int32
  | 0 => (nI 0, nI 0)
  | t + 1 => if 0 < N t then (if (gp_wf N w p t).1 < nI (w t) then (nI (w t), nI (p t)) else if nI (w t) = (gp_wf N w p t).1 then (if nI (p t) < (gp_wf N w p t).2 then (nI (w t), nI (p t)) else gp_wf N w p t) else gp_wf N w p t) else gp_wf N w p t
theorem gp_wf_ex {N w p : Nat → Nat} {a : Nat} : ∀ k, (∀ i, a ≤ i → i < a + k → ¬ 0 < N i) → gp_wf N w p (a + k) = gp_wf N w p a
  | 0, _ => rfl
  | k + 1, e => by
    rw [← Nat.add_assoc, gp_wf, if_neg (e (a + k) (by omega) (by omega)), gp_wf_ex k (fun i h1 h2 => e i h1 (by omega))]
theorem gp_above {s : Nat} (hA : ∀ i j, A i j = true → L.testBit j = true) (hs : s < 2 ^ g) (h : L < s) (i : Nat) : ¬ 0 < gp_N g A s i := by
  intro z
  have := gp_sb_le (a := s) (b := L) (fun j hj => gp_N_in hA s i hs z j hj)
  omega
theorem op_worth {n : Nat} (hn : 5000 ≤ n) {m : gn_M} (h : gp_rel m) : ∃ r m1 m2, f_X3_worth n m = some (r, m1) ∧ f_X4_worth n m1 = some (r, m2) ∧ gp_rel m2 := by
  obtain ⟨g, d, K, Wt, T, G, l, S, o, hC, hM⟩ := h.2.2.2.now
  have hg := o.g7
  have h7 := gp_p7 hg
  by_cases g0 : g = 0
  · subst g0
    exact ⟨-4, m, m, by simp [f_X3_worth, hC.1.1, gp_lit], by simp [f_X4_worth, hM.1.1, gp_lit], h⟩
  have hA := gp_rA_is (nm := fun j => gp_nm g K j (T j)) hg (gp_lf_lt g G) o.2.2.2.2.2
  obtain ⟨m1, a1, a2, a3, a4⟩ := gp_svT hn hC o
  obtain ⟨L, eL⟩ : ∃ L, L = gp_lf g G := ⟨_, rfl⟩
  obtain ⟨A, eA⟩ : ∃ A, A = gp_A L l (fun j => gp_nm g K j (T j)) := ⟨_, rfl⟩
  rw [← eL] at a3 a4 hA
  rw [← eA] at a4 hA
  obtain ⟨H, eH⟩ : ∃ H, H = gp_wf (fun t => gp_N g A t 7) (gp_wo g Wt) gp_po := ⟨_, rfl⟩
  have hLl : L < 2 ^ g := by rw [eL]; exact gp_lf_lt g G
  have hC2 := a2.cC hC
  have e1 : H 1 = (nI 0, nI 0) := by
    rw [eH, gp_wf, gp_wf, if_pos (by rw [gp_N0]; decide)]
    have z1 : gp_wo g Wt 0 = 0 := by
      unfold gp_wo
      rw [gp_su_cg (h := fun _ => 0) (fun i hi => by simp), gp_su_0]
    have z2 : gp_po 0 = 0 := by decide
    rw [z1, z2]
    decide
  have hEx : H (2 ^ g) = H (L + 1) := by
    obtain ⟨k, hk⟩ : ∃ k, 2 ^ g = L + 1 + k := ⟨2 ^ g - (L + 1), by omega⟩
    rw [eH]
    have := gp_wf_ex (N := fun t => gp_N g A t 7) (w := gp_wo g Wt) (p := gp_po) (a := L + 1) k (fun i h1 h2 => gp_above hA.2.2.2.2.2.2 (by omega) (by omega) 7)
    rw [← hk] at this
    exact this
  have lpC : ∀ k : Int32 → Int32 → Option (Int32 × gn_M), L_X3_worth_37 n m1 k n (H 1).1 (H 1).2 (nI 1) = k (H (L + 1)).1 (H (L + 1)).2 := by
    intro k
    rw [eH]
    refine gp_lp (Lf := fun f i (acc : Int32 × Int32) => L_X3_worth_37 n m1 k f acc.1 acc.2 (nI i)) (N := L + 1) (A := gp_wf (fun t => gp_N g A t 7) (gp_wo g Wt) gp_po) (fun f i hi => ?_) (fun f => ?_) L 1 n (by omega) (by omega)
    · show L_X3_worth_37 n m1 k (f + 1) _ _ (nI i) = _
      rw [L_X3_worth_37]
      have hc := gp_ctL a3 hA a4 (s := i) (by omega)
      have hw := gp_woC hn hC2 hg (s := i) (by omega)
      have hb := gp_bc i (by omega)
      have e6 := a3.2.1
      rw [gp_wf]
      by_cases c1 : 0 < gp_N g A i 7
      · by_cases c2 : (gp_wf (fun t => gp_N g A t 7) (gp_wo g Wt) gp_po i).1 < nI (gp_wo g Wt i)
        · simp (disch := omega) only [e6, gp_lt, show ¬ L < i by omega, if_false, if_true, hc, c1, Option.bind_some, gp_lit, gp_eq, Nat.one_ne_zero, hw, hb, c2, nI_add]
        · by_cases c3 : nI (gp_wo g Wt i) = (gp_wf (fun t => gp_N g A t 7) (gp_wo g Wt) gp_po i).1
          · by_cases c4 : nI (gp_po i) < (gp_wf (fun t => gp_N g A t 7) (gp_wo g Wt) gp_po i).2
            · simp (disch := omega) only [e6, gp_lt, show ¬ L < i by omega, if_false, if_true, hc, c1, Option.bind_some, gp_lit, gp_eq, Nat.one_ne_zero, hw, hb, if_neg c2, if_pos c3, if_pos c4, nI_add]
            · simp (disch := omega) only [e6, gp_lt, show ¬ L < i by omega, if_false, if_true, hc, c1, Option.bind_some, gp_lit, gp_eq, Nat.one_ne_zero, hw, hb, if_neg c2, if_pos c3, if_neg c4, nI_add]
          · simp (disch := omega) only [e6, gp_lt, show ¬ L < i by omega, if_false, if_true, hc, c1, Option.bind_some, gp_lit, gp_eq, Nat.one_ne_zero, hw, hb, if_neg c2, if_neg c3, nI_add]
      · simp (disch := omega) only [e6, gp_lt, show ¬ L < i by omega, if_false, if_true, hc, c1, Option.bind_some, gp_lit, nI_add]
    · show L_X3_worth_37 n m1 k (f + 1) _ _ (nI (L + 1)) = _
      rw [L_X3_worth_37]
      have e6 := a3.2.1
      simp (disch := omega) only [e6, gp_lt, Nat.lt_succ_self, if_true]
  have lpM : ∀ m5, gp_cM m5 g d K Wt T G l S → gp_s52 m5 g A → ∀ k : Int32 → Int32 → Option (Int32 × gn_M), L_X4_worth_24 n m5 k n (nI 0) (nI 0) (nI 0) = k (H (2 ^ g)).1 (H (2 ^ g)).2 := by
    intro m5 hM5 h52 k
    rw [eH]
    refine gp_lp0 (Lf := fun f i (acc : Int32 × Int32) => L_X4_worth_24 n m5 k f acc.1 acc.2 (nI i)) (N := 2 ^ g) (A := gp_wf (fun t => gp_N g A t 7) (gp_wo g Wt) gp_po) (fun f i hi => ?_) (fun f => ?_) (by omega)
    · show L_X4_worth_24 n m5 k (f + 1) _ _ (nI i) = _
      rw [L_X4_worth_24]
      have eo := gp_ooL hn hM5 hg h52 hi
      have hw := gp_woM hn hM5 hg (s := i) (by omega)
      have hb := gp_bits (n := n) (s := i) hn (by omega)
      have hNl := gp_N_lt (A := A) (s := i) (i := 7) hg hi
      rw [gp_wf]
      by_cases c1 : 0 < gp_N g A i 7
      · by_cases c2 : (gp_wf (fun t => gp_N g A t 7) (gp_wo g Wt) gp_po i).1 < nI (gp_wo g Wt i)
        · simp (disch := omega) only [hM5.1.1, gp_lit, gp_sh, gp_lt, hi, if_true, hw, eo, Option.bind_some, c1, c2, hb, nI_add]
        · by_cases c3 : nI (gp_wo g Wt i) = (gp_wf (fun t => gp_N g A t 7) (gp_wo g Wt) gp_po i).1
          · by_cases c4 : nI (gp_po i) < (gp_wf (fun t => gp_N g A t 7) (gp_wo g Wt) gp_po i).2
            · simp (disch := omega) only [hM5.1.1, gp_lit, gp_sh, gp_lt, hi, if_true, hw, eo, Option.bind_some, c1, if_neg c2, if_pos c3, if_pos c4, hb, nI_add]
            · simp (disch := omega) only [hM5.1.1, gp_lit, gp_sh, gp_lt, hi, if_true, hw, eo, Option.bind_some, c1, if_neg c2, if_pos c3, if_neg c4, hb, nI_add]
          · simp (disch := omega) only [hM5.1.1, gp_lit, gp_sh, gp_lt, hi, if_true, hw, eo, Option.bind_some, c1, if_neg c2, if_neg c3, hb, nI_add]
      · simp (disch := omega) only [hM5.1.1, gp_lit, gp_sh, gp_lt, hi, if_true, if_false, hw, eo, Option.bind_some, c1, nI_add]
    · show L_X4_worth_24 n m5 k (f + 1) _ _ (nI (2 ^ g)) = _
      rw [L_X4_worth_24]
      simp (disch := omega) only [hM5.1.1, gp_lit, gp_sh, gp_lt, Nat.lt_irrefl, if_false]
  have ne0C : ¬ (m.1 7 6 = 0) := by rw [hC.1.1]; exact fun z => g0 ((gp_eq (by omega) (by decide)).mp z)
  obtain ⟨v, hv⟩ : ∃ v, v = (H (L + 1)).2 := ⟨_, rfl⟩
  have eC : f_X3_worth n m = some ((H (L + 1)).1, gn_up m1 0 10 v) := by
    unfold f_X3_worth
    rw [if_neg ne0C, a1, gp_bs]
    have := lpC (fun (e5 : Int32) (e6 : Int32) => gn_pf m1 0 10 e6 (fun m7 => some (e5, m7)))
    rw [e1] at this
    rw [hv]
    exact this
  have hM2 : gp_cM (gn_up m1 0 10 v) g d K Wt T G l S := (a2.cM hM).fr rfl rfl rfl rfl rfl
  obtain ⟨m4, m5, c1, c2, c3, c4⟩ := gp_nwT hn hM2 o
  rw [← eL, ← eA] at c4
  refine ⟨_, _, gn_up m5 38 2 v, eC, ?_, gp_sf_told h a2 c3⟩
  have ne0M : ¬ ((gn_up m1 0 10 v).1 38 10 = 0) := by rw [hM2.1.1]; exact fun z => g0 ((gp_eq (by omega) (by decide)).mp z)
  unfold f_X4_worth
  rw [if_neg ne0M, c1, gp_bs, c2, gp_bs]
  have := lpM m5 (c3.cM hM2) c4 (fun (e8 : Int32) (e9 : Int32) => (f_X4_told m5 e9).bind (fun x10 => some (e8, x10.2)))
  rw [hEx] at this
  rw [hv]
  exact this
/-- orders of all of a set, by who comes first -/
theorem gp_wyL {n : Nat} (hn : 5000 ≤ n) (h : gp_rC m g L O af) (hg : g ≤ 7) {s B p : Nat} (hs : s < 2 ^ g) (h0 : s ≠ 0) (hBl : B < 2147483648) (hB : ∀ j, j < g → s.testBit j = true → B.testBit j = A p j) (h37 : ∀ j, s.testBit j = true → m.1 37 (s * 7 + j) = nI (gp_N g A (gp_df s (2 ^ j)) j)) : f_X1_waysFrom n m (nI s) (nI B) = some (nI (gp_N g A s p)) := by
  have h7 := gp_p7 hg
  have e := h.1
  unfold f_X1_waysFrom
  rw [gp_NS h0]
  have hsb : s &&& B < 2147483648 := by have : s &&& B ≤ s := Nat.and_le_left; omega
  refine gp_lp0 (Lf := fun f i (acc : Int32) => L_X1_waysFrom_5 n m (nI s) (nI B) (fun e => some e) f acc (nI i)) (N := g) (A := fun i => nI (gp_su (fun j => if s.testBit j = true then (if A p j then gp_N g A (gp_df s (2 ^ j)) j else 0) else 0) i)) (fun f i hi => ?_) (fun f => ?_) (by omega)
  · show L_X1_waysFrom_5 n m (nI s) (nI B) _ (f + 1) _ (nI i) = _
    rw [L_X1_waysFrom_5]
    by_cases hb : s.testBit i = true
    · have hBi := hB i hi hb
      by_cases ha : A p i = true
      · have hbb : (s &&& B).testBit i = true := by rw [Nat.testBit_and, hb, hBi, ha]; rfl
        simp (disch := omega) only [e, gp_lt, hi, if_true, gp_and, gp_isIn hsb, hbb, gp_bs, gp_lit, gp_eq, Nat.one_ne_zero, if_false, pk_mul, nI_add, gp_rd, h37 i hb, gp_su, hb, ha]
      · have hbb : (s &&& B).testBit i = false := by rw [Nat.testBit_and, hb, hBi]; simpa using ha
        simp (disch := omega) only [e, gp_lt, hi, if_true, gp_and, gp_isIn hsb, hbb, gp_bs, gp_lit, if_false, nI_add, gp_su, hb, ha, Bool.false_eq_true, Nat.add_zero]
    · have hbb : (s &&& B).testBit i = false := by rw [Nat.testBit_and]; simp [hb]
      simp (disch := omega) only [e, gp_lt, hi, if_true, gp_and, gp_isIn hsb, hbb, gp_bs, gp_lit, if_false, nI_add, gp_su, hb, Bool.false_eq_true, Nat.add_zero]
  · show L_X1_waysFrom_5 n m (nI s) (nI B) _ (f + 1) _ (nI g) = _
    rw [L_X1_waysFrom_5]
    simp (disch := omega) only [e, gp_lt, Nat.lt_irrefl, if_false]
def gp_s37 (m : gn_M) (g L : Nat) (A : Nat → Nat → Bool) (s : Nat) : Prop := ∀ t, t < s → gp_sb t L → ∀ j, t.testBit j = true → m.1 37 (t * 7 + j) = nI (gp_N g A (gp_df t (2 ^ j)) j)
theorem gp_cwL {n : Nat} (hn : 5000 ≤ n) (h : gp_rC m g L O af) (a : gp_rA g L O af A) {s : Nat} (hs : gp_sb s L) (h37 : gp_s37 m g L A s) : ∃ m', f_X1_countWays n m (nI s) = some m' ∧ gp_f1 37 m m' ∧ gp_s37 m' g L A (s + 1) := by
  have hg := a.1
  have h7 := gp_p7 hg
  have hL := a.2.1
  have hsL := gp_sb_le hs
  have key := gp_li (Lf := fun f i m => L_X1_countWays_2 n (nI s) (fun m6 => some m6) f (nI i) m) (N := g) (I := fun i m' => gp_f1 37 m m' ∧ gp_s37 m' g L A s ∧ ∀ j, j < i → s.testBit j = true → m'.1 37 (s * 7 + j) = nI (gp_N g A (gp_df s (2 ^ j)) j)) (kk := fun m => some m) (fun f i m' hi hI => ?_) (fun f m' hI => ?_) g 0 n m (by omega) (by omega) ⟨gp_f1.rfl', h37, fun j hj => by omega⟩
  · obtain ⟨m', ⟨i1, i2, i3⟩, e⟩ := key
    refine ⟨m', e, i1, fun t ht hts j hj => ?_⟩
    by_cases q : t = s
    · subst q
      exact i3 j (gp_tb_lt (by omega) hj) hj
    · exact i2 t (by omega) hts j hj
  · have h' := h.fr (hI.1.1 8 (by omega)) (hI.1.1 33 (by omega))
    by_cases hb : s.testBit i = true
    · have hup : ∀ x, x = nI (gp_N g A (gp_df s (2 ^ i)) i) → gp_f1 37 m (gn_up m' 37 (s * 7 + i) x) ∧ gp_s37 (gn_up m' 37 (s * 7 + i) x) g L A s ∧ ∀ j, j < i + 1 → s.testBit j = true → (gn_up m' 37 (s * 7 + i) x).1 37 (s * 7 + j) = nI (gp_N g A (gp_df s (2 ^ j)) j) := by
        intro x hx
        refine ⟨hI.1.up, fun t ht hts j hj => ?_, fun j hj hjb => ?_⟩
        · have := gp_tb_lt (g := g) (by omega) hj
          rw [gp_u, if_neg (by omega)]
          exact hI.2.1 t ht hts j hj
        · rw [gp_u]
          by_cases q : j = i
          · rw [if_pos ⟨rfl, by omega⟩, hx, q]
          · rw [if_neg (by omega)]
            exact hI.2.2 j (by omega) hjb
      have hle := gp_rm_le s i
      by_cases hz : gp_df s (2 ^ i) = 0
      · refine ⟨_, hup (nI 1) (by rw [hz, gp_N0]), ?_⟩
        show L_X1_countWays_2 n (nI s) _ (f + 1) (nI i) m' = _
        rw [L_X1_countWays_2]
        simp (disch := omega) only [h'.1, gp_lt, hi, if_true, gp_isIn, hb, gp_bs, gp_lit, gp_eq, Nat.one_ne_zero, if_false, gp_sh, gp_nt, hz, pk_mul, nI_add, gp_wr]
      · have hwy := gp_wyL (A := A) (p := i) hn h' hg (s := gp_df s (2 ^ i)) (B := af i) (by omega) hz (by have := a.2.2.2.1 i hi; omega) (fun j hj hr => a.2.2.2.2.1 i j hi hj (gp_sb_rm hs j hr)) (fun j hj => hI.2.1 _ (gp_rm_less hb) (gp_sb_rm hs) j hj)
        refine ⟨_, hup _ rfl, ?_⟩
        show L_X1_countWays_2 n (nI s) _ (f + 1) (nI i) m' = _
        rw [L_X1_countWays_2]
        simp (disch := omega) only [h'.1, gp_lt, hi, if_true, gp_isIn, hb, gp_bs, gp_lit, gp_eq, Nat.one_ne_zero, if_false, gp_sh, gp_nt, hz, gp_rd, h'.2.2.2 i hi, hwy, pk_mul, nI_add, gp_wr]
    · refine ⟨m', ⟨hI.1, hI.2.1, fun j hj hjb => ?_⟩, ?_⟩
      · by_cases q : j = i
        · rw [q] at hjb; exact absurd hjb hb
        · exact hI.2.2 j (by omega) hjb
      · show L_X1_countWays_2 n (nI s) _ (f + 1) (nI i) m' = _
        rw [L_X1_countWays_2]
        simp (disch := omega) only [h'.1, gp_lt, hi, if_true, gp_isIn, hb, gp_bs, gp_lit, if_false, nI_add, Bool.false_eq_true]
  · show L_X1_countWays_2 n (nI s) _ (f + 1) (nI g) m' = _
    rw [L_X1_countWays_2]
    have h' := h.fr (hI.1.1 8 (by omega)) (hI.1.1 33 (by omega))
    simp (disch := omega) only [h'.1, gp_lt, Nat.lt_irrefl, if_false]
theorem gp_oaL {n : Nat} (hn : 5000 ≤ n) (h : gp_rC m g L O af) (a : gp_rA g L O af A) : ∃ m', f_X1_ordersOfAll n m = some (nI (gp_N g A L 7), m') ∧ gp_f1 37 m m' := by
  have hg := a.1
  have h7 := gp_p7 hg
  have hL := a.2.1
  by_cases h0 : L = 0
  · refine ⟨m, ?_, gp_f1.rfl'⟩
    unfold f_X1_ordersOfAll
    rw [h.2.1, h0, gp_N0]
    rfl
  have key := gp_li (Lf := fun f i m => L_X1_ordersOfAll_11 n (fun (m3 : gn_M) => (f_X1_waysFrom n m3 (m3.1 8 6) (m3.1 8 7)).bind (fun x4 => some (x4, m3))) f (nI i) m) (N := L + 1) (I := fun i m' => gp_f1 37 m m' ∧ gp_s37 m' g L A i) (kk := fun m' => some (nI (gp_N g A L 7), m')) (fun f i m' hi hI => ?_) (fun f m' hI => ?_) L 1 n m (by omega) (by omega) ⟨gp_f1.rfl', fun t ht hts j hj => ?_⟩
  · obtain ⟨m', ⟨i1, i2⟩, e⟩ := key
    refine ⟨m', ?_, i1⟩
    unfold f_X1_ordersOfAll
    rw [if_neg]
    · exact e
    · rw [h.2.1]
      exact fun z => h0 ((gp_eq (by omega) (by decide)).mp z)
  · have h' := h.fr (hI.1.1 8 (by omega)) (hI.1.1 33 (by omega))
    have hw := gp_wi h' (s := i) (by omega)
    have e6 := h'.2.1
    by_cases hz : gp_df i L = 0
    · rw [if_pos hz] at hw
      obtain ⟨m'', j1, j2, j3⟩ := gp_cwL hn h' a (gp_df0.mp hz) hI.2
      refine ⟨m'', ⟨hI.1.tr j2, j3⟩, ?_⟩
      show L_X1_ordersOfAll_11 n _ (f + 1) (nI i) m' = _
      rw [L_X1_ordersOfAll_11]
      simp (disch := omega) only [e6, gp_lt, show ¬ L < i by omega, if_false, hw, Option.bind_some, gp_lit, gp_eq, Nat.one_ne_zero, j1, nI_add]
    · rw [if_neg hz] at hw
      refine ⟨m', ⟨hI.1, fun t ht hts j hj => ?_⟩, ?_⟩
      · by_cases q : t = i
        · rw [q] at hts
          exact absurd (gp_df0.mpr hts) hz
        · exact hI.2 t (by omega) hts j hj
      · show L_X1_ordersOfAll_11 n _ (f + 1) (nI i) m' = _
        rw [L_X1_ordersOfAll_11]
        simp (disch := omega) only [e6, gp_lt, show ¬ L < i by omega, if_false, hw, Option.bind_some, gp_lit, if_true, nI_add]
  · have h' := h.fr (hI.1.1 8 (by omega)) (hI.1.1 33 (by omega))
    have hwy := gp_wyL (A := A) (p := 7) hn h' hg (s := L) (B := O) hL h0 (by have := a.2.2.1; omega) (fun j hj _ => a.2.2.2.2.2.1 j hj) (fun j hj => hI.2 L (by omega) (fun _ z => z) j hj)
    show L_X1_ordersOfAll_11 n _ (f + 1) (nI (L + 1)) m' = _
    rw [L_X1_ordersOfAll_11]
    simp (disch := omega) only [h'.2.1, h'.2.2.1, gp_lt, Nat.lt_succ_self, if_true, hwy, Option.bind_some]
  · have : t = 0 := by omega
    rw [this, Nat.zero_testBit] at hj
    cases hj
theorem op_orders {n : Nat} (hn : 5000 ≤ n) {m : gn_M} (h : gp_rel m) : ∃ r m1 m2, f_X3_orders n m = some (r, m1) ∧ f_X4_orders n m1 = some (r, m2) ∧ gp_rel m2 := by
  obtain ⟨g, d, K, Wt, T, G, l, S, o, hC, hM⟩ := h.2.2.2.now
  have hg := o.g7
  have h7 := gp_p7 hg
  by_cases g0 : g = 0
  · subst g0
    exact ⟨-4, m, m, by simp [f_X3_orders, hC.1.1, gp_lit], by simp [f_X4_orders, hM.1.1, gp_lit], h⟩
  have hA := gp_rA_is (nm := fun j => gp_nm g K j (T j)) hg (gp_lf_lt g G) o.2.2.2.2.2
  obtain ⟨m1, a1, a2, a3, a4⟩ := gp_svT hn hC o
  obtain ⟨m2, b1, b2⟩ := gp_oaL hn a3 hA
  have hM2 := (a2.tr (b2.sf (by omega))).cM hM
  obtain ⟨m4, m5, c1, c2, c3, c4⟩ := gp_nwT hn hM2 o
  have hM5 := c3.cM hM2
  have eo := gp_ooL hn hM5 hg c4 (gp_lf_lt g G)
  have el := gp_leftM hM5 o
  have ne0C : ¬ (m.1 7 6 = 0) := by rw [hC.1.1]; exact fun z => g0 ((gp_eq (by omega) (by decide)).mp z)
  have ne0M : ¬ (m2.1 38 10 = 0) := by rw [hM2.1.1]; exact fun z => g0 ((gp_eq (by omega) (by decide)).mp z)
  refine ⟨nI (gp_N g (gp_A (gp_lf g G) l fun j => gp_nm g K j (T j)) (gp_lf g G) 7), m2, m5, ?_, ?_, ((a2.tr (b2.sf (by omega))).tr c3).rel h⟩
  · unfold f_X3_orders
    rw [if_neg ne0C, a1, gp_bs, b1, gp_bs]
  · unfold f_X4_orders
    rw [if_neg ne0M, c1, gp_bs, c2, gp_bs, el, gp_bs, eo, gp_bs]
end GPZ
