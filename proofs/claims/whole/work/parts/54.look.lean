/-! PURE: the class's road: what it looks at -/
/-- who can name whom; who can follow; to whom it opens -/
def gp_af (g : Nat) (nm : Nat → Nat) (i : Nat) : Nat := gp_bs1 (fun j => (nm j).testBit i) g
def gp_mg (l : Nat) (nm : Nat → Nat) (p j : Nat) : Bool := if p = 7 then decide (l = 7) || (nm j).testBit l else (nm j).testBit p
def gp_A (L l : Nat) (nm : Nat → Nat) (p j : Nat) : Bool := L.testBit j && gp_mg l nm p j
def gp_O (g L l : Nat) (nm : Nat → Nat) : Nat := if l = 7 then L else gp_af g nm l &&& L
theorem gp_rA_is {g L l : Nat} {nm : Nat → Nat} (hg : g ≤ 7) (hL : L < 2 ^ g) (hl : l < g ∨ l = 7) : gp_rA g L (gp_O g L l nm) (gp_af g nm) (gp_A L l nm) := by
  refine ⟨hg, hL, ?_, fun i hi => gp_bs1_lt _ _, fun i j hi hj hb => ?_, fun j hj => ?_, fun i j h => ?_⟩
  · unfold gp_O
    split
    · exact hL
    · exact Nat.lt_of_le_of_lt Nat.and_le_right hL
  · unfold gp_af gp_A gp_mg
    rw [gp_bs1_tb, hb, if_neg (by omega)]
    simp [hj]
  · unfold gp_O gp_A gp_mg
    rw [if_pos rfl]
    by_cases h7 : l = 7
    · rw [if_pos h7]
      simp [h7]
    · rw [if_neg h7, Nat.testBit_and, gp_af, gp_bs1_tb]
      simp [hj, h7, Bool.and_comm]
  · unfold gp_A at h
    revert h
    cases L.testBit j <;> simp
section GPL
variable {m m' : gn_M} {g d : Nat} {K Wt T : Nat → Nat} {G l S : Nat}
theorem gp_lk45 {n : Nat} (hn : 5000 ≤ n) {m0 : gn_M} (e5 : m0.1 8 5 = nI g) (hg : g ≤ 7) {a2 j v : Nat} (hj : j < g) (hv : v < 2 ^ g) (k : gn_M → Option gn_M) : ∃ m', (gp_f1 33 m0 m' ∧ ∀ x, x < g → m'.1 33 x = if v.testBit x then m0.1 33 x ||| nI (2 ^ j) else m0.1 33 x) ∧ L_X1_look_45 n a2 (nI j) (nI v) k n 0 m0 = k m' := by
  have h7 := gp_p7 hg
  have key := gp_li (Lf := fun f i m => L_X1_look_45 n a2 (nI j) (nI v) k f (nI i) m) (N := g) (I := fun i m' => gp_f1 33 m0 m' ∧ ∀ x, x < g → m'.1 33 x = if decide (x < i) && v.testBit x then m0.1 33 x ||| nI (2 ^ j) else m0.1 33 x) (kk := k) (fun f i m' hi hI => ?_) (fun f m' hI => ?_) g 0 n m0 (by omega) (by omega) ⟨gp_f1.rfl', fun x hx => by simp⟩
  · obtain ⟨m', ⟨i1, i2⟩, e⟩ := key
    refine ⟨m', ⟨i1, fun x hx => ?_⟩, e⟩
    rw [i2 x hx]
    simp [hx]
  · have e5' : m'.1 8 5 = nI g := by rw [hI.1.1 8 (by omega)]; exact e5
    have ei := hI.2 i hi
    simp at ei
    by_cases hb : v.testBit i = true
    · refine ⟨gn_up m' 33 i (m0.1 33 i ||| nI (2 ^ j)), ⟨hI.1.up, fun x hx => ?_⟩, ?_⟩
      · rw [gp_u]
        by_cases q : x = i
        · subst q
          simp [hb]
        · rw [if_neg (by omega), hI.2 x hx]
          simp [show (x < i + 1) = (x < i) from propext ⟨fun _ => by omega, fun _ => by omega⟩]
      · show L_X1_look_45 n a2 (nI j) (nI v) k (f + 1) (nI i) m' = _
        rw [L_X1_look_45]
        simp (disch := omega) only [gp_lit, e5', gp_lt, hi, if_true, gp_isIn, gp_bs, hb, gp_eq, Nat.one_ne_zero, if_false, gp_rd, gp_wr, ei, gp_sh, nI_add]
    · refine ⟨m', ⟨hI.1, fun x hx => ?_⟩, ?_⟩
      · rw [hI.2 x hx]
        by_cases q : x = i
        · subst q
          simp [hb]
        · simp [show (x < i + 1) = (x < i) from propext ⟨fun _ => by omega, fun _ => by omega⟩]
      · show L_X1_look_45 n a2 (nI j) (nI v) k (f + 1) (nI i) m' = _
        rw [L_X1_look_45]
        simp (disch := omega) [gp_lit, e5', gp_lt, hi, gp_isIn, hb, nI_add]
  · show L_X1_look_45 n a2 (nI j) (nI v) k (f + 1) (nI g) m' = _
    rw [L_X1_look_45]
    have e5' : m'.1 8 5 = nI g := by rw [hI.1.1 8 (by omega)]; exact e5
    simp (disch := omega) only [e5', gp_lt, Nat.lt_irrefl, if_false]
theorem gp_lk26 {n : Nat} (hn : 5000 ≤ n) {m0 : gn_M} (hC : gp_cC m0 g d K Wt T G l S) (o : gp_ok g d K Wt T G l S) (e5 : m0.1 8 5 = nI g) {c : Nat} (hc : c ≠ 33) {T' : Nat → Nat} (hT : ∀ j, j < g → m0.1 c j = nI (T' j) ∧ T' j < 2 ^ g) (h0 : ∀ x, x < g → m0.1 33 x = nI 0) (k : gn_M → Option gn_M) : ∃ m', (gp_f1 33 m0 m' ∧ ∀ x, x < g → m'.1 33 x = nI (gp_af g (fun j => gp_nm g K j (T' j)) x)) ∧ L_X1_look_26 n c k n 0 m0 = k m' := by
  have hg := o.g7
  have h7 := gp_p7 hg
  have key := gp_li (Lf := fun f i m => L_X1_look_26 n c k f (nI i) m) (N := g) (I := fun i m' => gp_f1 33 m0 m' ∧ ∀ x, x < g → m'.1 33 x = nI (gp_bs1 (fun j => (gp_nm g K j (T' j)).testBit x) i)) (kk := k) (fun f i m' hi hI => ?_) (fun f m' hI => ?_) g 0 n m0 (by omega) (by omega) ⟨gp_f1.rfl', fun x hx => h0 x hx⟩
  · obtain ⟨m', ⟨i1, i2⟩, e⟩ := key
    exact ⟨m', ⟨i1, i2⟩, e⟩
  · have e5' : m'.1 8 5 = nI g := by rw [hI.1.1 8 (by omega)]; exact e5
    have hC' : gp_cC m' g d K Wt T G l S := hC.fr (hI.1.1 7 (by omega)) (hI.1.1 27 (by omega)) (hI.1.1 28 (by omega)) (hI.1.1 30 (by omega)) (hI.1.1 31 (by omega))
    have en := gp_naming hC' hg (k := c) (i := i) (t := T' i) (by omega) (by rw [hI.1.1 c hc]; exact (hT i hi).1)
    have hv := gp_nm_lt (g := g) (K := K) (i := i) (t := T' i) hi (hT i hi).2
    obtain ⟨m'', ⟨j1, j2⟩, j3⟩ := gp_lk45 hn e5' hg (a2 := c) hi hv (fun m9 => L_X1_look_26 n c k f (nI (i + 1)) m9)
    refine ⟨m'', ⟨hI.1.tr j1, fun x hx => ?_⟩, ?_⟩
    · rw [j2 x hx, hI.2 x hx, gp_or, gp_bs1]
      split <;> rfl
    · show L_X1_look_26 n c k (f + 1) (nI i) m' = _
      rw [L_X1_look_26]
      simp (disch := omega) only [e5', gp_lt, hi, if_true, en, Option.bind_some, gp_lit, nI_add]
      exact j3
  · show L_X1_look_26 n c k (f + 1) (nI g) m' = _
    rw [L_X1_look_26]
    have e5' : m'.1 8 5 = nI g := by rw [hI.1.1 8 (by omega)]; exact e5
    simp (disch := omega) only [e5', gp_lt, Nat.lt_irrefl, if_false]
theorem gp_lkL {n : Nat} (hn : 5000 ≤ n) (hC : gp_cC m g d K Wt T G l S) (o : gp_ok g d K Wt T G l S) {c : Nat} (hc : c ≠ 33) (hc8 : c ≠ 8) {T' : Nat → Nat} (hT : ∀ j, j < g → m.1 c j = nI (T' j) ∧ T' j < 2 ^ g) : ∃ m', f_X1_look n m c = some m' ∧ (∀ k, k ≠ 8 → k ≠ 33 → m'.1 k = m.1 k) ∧ m'.2 = m.2 ∧ gp_rC m' g (gp_lf g G) (gp_O g (gp_lf g G) l (fun j => gp_nm g K j (T' j))) (gp_af g (fun j => gp_nm g K j (T' j))) := by
  have hg := o.g7
  have h7 := gp_p7 hg
  obtain ⟨m1, hm1⟩ : ∃ x, x = gn_up m 8 5 (nI g) := ⟨_, rfl⟩
  have hC1 : gp_cC m1 g d K Wt T G l S := by rw [hm1]; exact hC.fr rfl rfl rfl rfl rfl
  obtain ⟨m3, hm3⟩ : ∃ x, x = gn_up m1 8 6 (nI (gp_lf g G)) := ⟨_, rfl⟩
  obtain ⟨m4, hm4⟩ : ∃ x, x = gp_rg m3 33 0 7 0 := ⟨_, rfl⟩
  have f4 : ∀ k, k ≠ 8 → k ≠ 33 → m4.1 k = m.1 k := by
    intro k k1 k2
    rw [hm4, gp_rg_ne k2, hm3, gp_une k1, hm1, gp_une k1]
  have f42 : m4.2 = m.2 := by rw [hm4, hm3, hm1]; rfl
  have f48 : m4.1 8 = m3.1 8 := by rw [hm4, gp_rg_ne (by decide)]
  have e5 : m4.1 8 5 = nI g := by rw [f48, hm3, hm1]; rfl
  have e6 : m4.1 8 6 = nI (gp_lf g G) := by rw [f48, hm3]; rfl
  have hC4 : gp_cC m4 g d K Wt T G l S := hC.fr (f4 7 (by omega) (by omega)) (f4 27 (by omega) (by omega)) (f4 28 (by omega) (by omega)) (f4 30 (by omega) (by omega)) (f4 31 (by omega) (by omega))
  have h33 : ∀ x, x < g → m4.1 33 x = nI 0 := by
    intro x hx
    rw [hm4]
    exact gp_rg_in (by omega) (by omega)
  obtain ⟨m5, ⟨j1, j2⟩, j3⟩ := gp_lk26 hn hC4 o e5 hc (fun j hj => by rw [f4 c hc8 hc]; exact hT j hj) h33 (fun (m10 : gn_M) => (if (if (m10.1 7 9) < 0 then (0 : Int32) else (if (m10.1 7 9) < (m10.1 8 5) then (1 : Int32) else (0 : Int32))) = 0 then gn_pf m10 8 7 (m10.1 8 6) (fun m12 => some m12) else gn_rd m10 33 7 (m10.1 7 9) (fun x13 => gn_pf m10 8 7 (x13 &&& (m10.1 8 6)) (fun m14 => some m14))))
  have e55 : m5.1 8 5 = nI g := by rw [j1.1 8 (by omega)]; exact e5
  have e56 : m5.1 8 6 = nI (gp_lf g G) := by rw [j1.1 8 (by omega)]; exact e6
  have e59 : m5.1 7 9 = gp_lI l := by rw [j1.1 7 (by omega)]; exact hC4.1.2.2.2.1
  refine ⟨gn_up m5 8 7 (nI (gp_O g (gp_lf g G) l (fun j => gp_nm g K j (T' j)))), ?_, fun k k1 k2 => ?_, ?_, ?_, ?_, ?_, fun i hi => ?_⟩
  · unfold f_X1_look
    rw [gp_pf, hC.1.1, ← hm1, gp_leftC hC1 hg, gp_bs, gp_pf, ← hm3, gp_fill (by omega) (by omega), gp_bs, ← hm4, j3]
    simp only [e55, e56, e59, gp_pf]
    rcases o.2.2.2.2.2 with hl | hl
    · have e33 := j2 l hl
      rw [gp_lI7 (by omega)]
      simp (disch := omega) only [gp_lit, Nat.not_lt_zero, if_false, gp_lt, hl, if_true, gp_eq, Nat.one_ne_zero, gp_rd, e33, gp_and, gp_O, show ¬ l = 7 by omega]
    · subst hl
      rw [gp_lI9]
      have hneg : (-nI 9 < (0 : Int32)) := by decide
      rw [if_pos hneg, if_pos rfl, gp_O, if_pos rfl]
  · rw [gp_une k1, j1.1 k k2]
    exact f4 k k1 k2
  · show m5.2 = m.2
    rw [j1.2, f42]
  · rw [gp_u, if_neg (by omega)]; exact e55
  · rw [gp_u, if_neg (by omega)]; exact e56
  · rw [gp_u, if_pos ⟨rfl, rfl⟩]
  · rw [gp_une (by decide)]; exact j2 i hi
/-- the whole survey -/
theorem gp_svL {n : Nat} (hn : 5000 ≤ n) (hC : gp_cC m g d K Wt T G l S) (o : gp_ok g d K Wt T G l S) {c : Nat} (hc : c ≠ 33) (hc8 : c ≠ 8) {T' : Nat → Nat} (hT : ∀ j, j < g → m.1 c j = nI (T' j) ∧ T' j < 2 ^ g) : ∃ m', f_X1_survey n m c = some m' ∧ (∀ k, k ≠ 8 → k ≠ 33 → k ≠ 34 → m'.1 k = m.1 k) ∧ m'.2 = m.2 ∧ gp_rC m' g (gp_lf g G) (gp_O g (gp_lf g G) l (fun j => gp_nm g K j (T' j))) (gp_af g (fun j => gp_nm g K j (T' j))) ∧ gp_s34 m' g (gp_lf g G) (gp_A (gp_lf g G) l (fun j => gp_nm g K j (T' j))) := by
  obtain ⟨m1, a1, a2, a3, a4⟩ := gp_lkL hn hC o hc hc8 hT
  obtain ⟨m2, b1, b2, b3⟩ := gp_chL hn a4 (gp_rA_is o.g7 (gp_lf_lt g G) o.2.2.2.2.2)
  refine ⟨m2, ?_, fun k k1 k2 k3 => ?_, ?_, a4.fr (b2.1 8 (by omega)) (b2.1 33 (by omega)), b3⟩
  · unfold f_X1_survey
    rw [a1, gp_bs, b1, gp_bs]
  · rw [b2.1 k k3]; exact a2 k k1 k2
  · rw [b2.2, a3]
end GPL
