/-! PURE: duel -/
section GPD
variable {m m' : gn_M} {g d : Nat} {K Wt T : Nat → Nat} {G l S : Nat} {nm : Nat → Nat} {A : Nat → Nat → Bool} {L O : Nat} {af : Nat → Nat}
theorem gp_rm_and (s L j : Nat) : gp_df (s &&& L) (2 ^ j) = gp_df s (2 ^ j) &&& L := by
  apply Nat.eq_of_testBit_eq
  intro x
  rw [gp_rm_tb, Nat.testBit_and, Nat.testBit_and, gp_rm_tb]
  cases s.testBit x <;> cases L.testBit x <;> simp
theorem gp_w_in (hA : ∀ i j, A i j = true → L.testBit j = true) : ∀ s i, gp_w g A s i = gp_w g A (s &&& L) i := by
  intro s
  induction s using Nat.strongRecOn with
  | ind s ih =>
    intro i
    apply Bool.eq_iff_iff.mpr
    rw [gp_winS, gp_winS]
    constructor
    · rintro ⟨j, j1, j2, j3, j4⟩
      refine ⟨j, j1, by rw [Nat.testBit_and, j2, hA i j j3]; rfl, j3, ?_⟩
      rw [gp_rm_and, ← ih _ (gp_rm_less j2) j]
      exact j4
    · rintro ⟨j, j1, j2, j3, j4⟩
      rw [Nat.testBit_and] at j2
      have j2' : s.testBit j = true := by revert j2; cases s.testBit j <;> simp
      refine ⟨j, j1, j2', j3, ?_⟩
      rw [ih _ (gp_rm_less j2') j, ← gp_rm_and]
      exact j4
theorem gp_E_in (hA : ∀ i j, A i j = true → L.testBit j = true) : ∀ s i, gp_E g A s i = gp_E g A (s &&& L) i := by
  intro s
  induction s using Nat.strongRecOn with
  | ind s ih =>
    intro i
    rw [gp_ES, gp_ES]
    refine gp_mx_cg (fun j hj => ?_)
    by_cases ha : A i j = true
    · rw [Nat.testBit_and, hA i j ha, Bool.and_true]
      by_cases hb : s.testBit j = true
      · rw [if_pos hb, if_pos hb, if_pos ha, if_pos ha, gp_rm_and, ← ih _ (gp_rm_less hb) j]
      · rw [if_neg hb, if_neg hb]
    · simp only [ha]
      simp
/-- the first of whom it is so -/
def gp_fi (P : Nat → Bool) : Nat → Nat → Int32
  | 0, _ => -nI 9
  | k + 1, i => if P i then nI i else gp_fi P k (i + 1)
theorem gp_fi_cg {P Q : Nat → Bool} : ∀ k i, (∀ j, i ≤ j → j < i + k → P j = Q j) → gp_fi P k i = gp_fi Q k i
  | 0, _, _ => rfl
  | k + 1, i, h => by
    rw [gp_fi, gp_fi, h i (by omega) (by omega), gp_fi_cg k (i + 1) (fun j h1 h2 => h j (by omega) (by omega))]
theorem gp_fi_no {P : Nat → Bool} : ∀ k i, i + k ≤ 7 → (gp_fi P k i = -nI 9 ↔ ∀ j, i ≤ j → j < i + k → P j = false)
  | 0, i, _ => ⟨fun _ j h1 h2 => by omega, fun _ => rfl⟩
  | k + 1, i, h => by
    rw [gp_fi]
    have hne : ∀ k, k ≤ 7 → nI k ≠ -nI 9 := by decide
    by_cases hp : P i = true
    · rw [if_pos hp]
      refine ⟨fun z => absurd z (hne i (by omega)), fun z => ?_⟩
      have := z i (by omega) (by omega)
      rw [hp] at this
      cases this
    · rw [if_neg hp, gp_fi_no k (i + 1) (by omega)]
      refine ⟨fun z j h1 h2 => ?_, fun z j h1 h2 => z j (by omega) (by omega)⟩
      by_cases e : j = i
      · rw [e]; simpa using hp
      · exact z j (by omega) (by omega)
def gp_P (g : Nat) (A : Nat → Nat → Bool) (s p j : Nat) : Bool := s.testBit j && A p j && !gp_w g A (gp_df s (2 ^ j)) j
theorem gp_fi_w (hg : g ≤ 7) {s p : Nat} : gp_fi (gp_P g A s p) g 0 = -nI 9 ↔ gp_w g A s p = false := by
  rw [gp_fi_no g 0 (by omega)]
  constructor
  · intro z
    cases hw : gp_w g A s p
    · rfl
    · obtain ⟨j, j1, j2, j3, j4⟩ := gp_winS.mp hw
      have := z j (by omega) (by omega)
      unfold gp_P at this
      rw [j2, j3, j4] at this
      cases this
  · intro hw j _ hj
    cases hp : gp_P g A s p j
    · rfl
    · unfold gp_P at hp
      have : gp_w g A s p = true := by
        refine gp_winS.mpr ⟨j, by omega, ?_⟩
        revert hp
        cases s.testBit j <;> cases A p j <;> cases gp_w g A (gp_df s (2 ^ j)) j <;> simp
      rw [this] at hw
      cases hw
/-- behind whom one wins -/
def gp_wn (g : Nat) (A : Nat → Nat → Bool) (L t : Nat) : Nat := gp_bs1 (fun i => (gp_df L t).testBit i && gp_w g A t i) g
def gp_s36 (m : gn_M) (g L : Nat) (A : Nat → Nat → Bool) (s : Nat) : Prop := ∀ t, t < s → gp_sb t L → m.1 36 t = nI (gp_wn g A L t)
theorem gp_wmL {n : Nat} (hn : 5000 ≤ n) (h : gp_rC m g L O af) (hg : g ≤ 7) (hL : L < 2 ^ g) {s B p : Nat} (hs : gp_sb s L) (hB : ∀ j, j < g → s.testBit j = true → B.testBit j = A p j) (h36 : gp_s36 m g L A s) : f_X1_winningMove n m (nI s) (nI B) = some (gp_fi (gp_P g A s p) g 0) := by
  have h7 := gp_p7 hg
  have e := h.1
  have hsL := gp_sb_le hs
  have hsb : s &&& B < 2147483648 := by have : s &&& B ≤ s := Nat.and_le_left; omega
  have key : ∀ k i f, i + k = g → k < f → L_X1_winningMove_2 n m (nI s) (nI B) (fun (_ : Unit) => some (-9 : Int32)) f (nI i) = some (gp_fi (gp_P g A s p) k i) := by
    intro k
    induction k with
    | zero =>
      intro i f hi hf
      obtain ⟨f, rfl⟩ : ∃ f', f = f' + 1 := ⟨f - 1, by omega⟩
      rw [L_X1_winningMove_2]
      simp (disch := omega) only [e, gp_lt, show ¬ i < g by omega, if_false]
      rfl
    | succ k ih =>
      intro i f hi hf
      obtain ⟨f, rfl⟩ : ∃ f', f = f' + 1 := ⟨f - 1, by omega⟩
      rw [L_X1_winningMove_2, gp_fi]
      have ih' := ih (i + 1) f (by omega) (by omega)
      have hig : i < g := by omega
      by_cases hb : s.testBit i = true
      · have hBi := hB i hig hb
        by_cases ha : A p i = true
        · have hbb : (s &&& B).testBit i = true := by rw [Nat.testBit_and, hb, hBi, ha]; rfl
          have hlt := gp_rm_less hb
          have e36 := h36 _ hlt (gp_sb_rm hs)
          have hwl := gp_bs1_lt (fun i => (gp_df L (gp_df s (2 ^ i))).testBit i && gp_w g A (gp_df s (2 ^ i)) i) g
          have hwb : (gp_wn g A L (gp_df s (2 ^ i))).testBit i = gp_w g A (gp_df s (2 ^ i)) i := by
            unfold gp_wn
            rw [gp_bs1_tb, gp_df_tb, hs i hb, gp_rm_tb]
            simp [hig]
          have hwl : gp_wn g A L (gp_df s (2 ^ i)) < 2 ^ g := gp_bs1_lt _ _
          have hP : gp_P g A s p i = !gp_w g A (gp_df s (2 ^ i)) i := by unfold gp_P; rw [hb, ha]; rfl
          rw [hP]
          cases hw : gp_w g A (gp_df s (2 ^ i)) i
          · rw [hw] at hwb
            simp (disch := omega) only [e, gp_lt, hig, if_true, gp_and, gp_isIn hsb, hbb, gp_bs, gp_lit, gp_eq, Nat.one_ne_zero, if_false, gp_sh, gp_sh2, gp_nt, gp_rd, e36, gp_isIn, hwb, Bool.not_false, Bool.false_eq_true]
          · rw [hw] at hwb
            simp (disch := omega) only [e, gp_lt, hig, if_true, gp_and, gp_isIn hsb, hbb, gp_bs, gp_lit, gp_eq, Nat.one_ne_zero, if_false, gp_sh, gp_sh2, gp_nt, gp_rd, e36, gp_isIn, hwb, Bool.not_true, Bool.false_eq_true, nI_add]
            exact ih'
        · have hbb : (s &&& B).testBit i = false := by rw [Nat.testBit_and, hb, hBi]; simpa using ha
          have hP : gp_P g A s p i = false := by unfold gp_P; simp [ha]
          simp (disch := omega) only [e, gp_lt, hig, if_true, gp_and, gp_isIn hsb, hbb, gp_bs, gp_lit, if_false, nI_add, Bool.false_eq_true, hP]
          exact ih'
      · have hbb : (s &&& B).testBit i = false := by rw [Nat.testBit_and]; simp [hb]
        have hP : gp_P g A s p i = false := by unfold gp_P; simp [hb]
        simp (disch := omega) only [e, gp_lt, hig, if_true, gp_and, gp_isIn hsb, hbb, gp_bs, gp_lit, if_false, nI_add, Bool.false_eq_true, hP]
        exact ih'
  exact key g 0 n (by omega) (by omega)
theorem gp_waL {n : Nat} (hn : 5000 ≤ n) (h : gp_rC m g L O af) (a : gp_rA g L O af A) {s : Nat} (hs : gp_sb s L) (h36 : gp_s36 m g L A s) : f_X1_winnersAt n m (nI s) = some (nI (gp_wn g A L s)) := by
  have hg := a.1
  have h7 := gp_p7 hg
  have hL := a.2.1
  have hsL := gp_sb_le hs
  have e := h.1
  have e6 := h.2.1
  have hdl := gp_df_le L s
  unfold f_X1_winnersAt
  refine gp_lp0 (Lf := fun f i (acc : Int32) => L_X1_winnersAt_4 n m (nI s) (fun e => some e) f acc (nI i)) (N := g) (A := fun i => nI (gp_bs1 (fun i => (gp_df L s).testBit i && gp_w g A s i) i)) (fun f i hi => ?_) (fun f => ?_) (by omega)
  · show L_X1_winnersAt_4 n m (nI s) _ (f + 1) _ (nI i) = _
    rw [L_X1_winnersAt_4]
    by_cases hb : (gp_df L s).testBit i = true
    · have hm := gp_wmL (A := A) (p := i) hn h hg hL hs (B := af i) (fun j hj hr => a.2.2.2.2.1 i j hi hj (hs j hr)) h36
      have hw := gp_fi_w (A := A) hg (s := s) (p := i)
      simp (disch := omega) only [e, e6, gp_lt, hi, if_true, gp_lit, gp_nt, gp_isIn, hb, gp_bs, gp_eq, Nat.one_ne_zero, if_false, gp_rd, h.2.2.2 i hi, hm, gp_bs1, Bool.true_and]
      by_cases c : gp_w g A s i = true
      · have c' : ¬ gp_fi (gp_P g A s i) g 0 = -nI 9 := fun z => by rw [hw.mp z] at c; cases c
        simp (disch := omega) only [if_neg c', c, if_true, gp_sh, gp_or, nI_add]
      · have c' : gp_fi (gp_P g A s i) g 0 = -nI 9 := hw.mpr (by simpa using c)
        simp only [if_pos c', c, nI_add]
        rfl
    · simp (disch := omega) only [e, e6, gp_lt, hi, if_true, gp_lit, gp_nt, gp_isIn, hb, gp_bs, if_false, nI_add, gp_bs1, Bool.false_and, Bool.false_eq_true]
  · show L_X1_winnersAt_4 n m (nI s) _ (f + 1) _ (nI g) = _
    rw [L_X1_winnersAt_4]
    simp (disch := omega) only [e, gp_lt, Nat.lt_irrefl, if_false]
    rfl
theorem gp_wgL {n : Nat} (hn : 5000 ≤ n) (h : gp_rC m g L O af) (a : gp_rA g L O af A) : ∃ m', f_X1_winningGoer n m = some (gp_fi (gp_P g A L 7) g 0, m') ∧ gp_f1 36 m m' := by
  have hg := a.1
  have h7 := gp_p7 hg
  have hL := a.2.1
  have key := gp_li (Lf := fun f i m => L_X1_winningGoer_2 n (fun (m4 : gn_M) => (f_X1_winningMove n m4 (m4.1 8 6) (m4.1 8 7)).bind (fun x5 => some (x5, m4))) f (nI i) m) (N := L) (I := fun i m' => gp_f1 36 m m' ∧ gp_s36 m' g L A i) (kk := fun m' => some (gp_fi (gp_P g A L 7) g 0, m')) (fun f i m' hi hI => ?_) (fun f m' hI => ?_) L 0 n m (by omega) (by omega) ⟨gp_f1.rfl', fun t ht => by omega⟩
  · obtain ⟨m', ⟨i1, i2⟩, e⟩ := key
    exact ⟨m', e, i1⟩
  · have h' := h.fr (hI.1.1 8 (by omega)) (hI.1.1 33 (by omega))
    have hw := gp_wi h' (s := i) (by omega)
    have e6 := h'.2.1
    by_cases hz : gp_df i L = 0
    · rw [if_pos hz] at hw
      have hwa := gp_waL hn h' a (gp_df0.mp hz) hI.2
      refine ⟨gn_up m' 36 i (nI (gp_wn g A L i)), ⟨hI.1.up, fun t ht hts => ?_⟩, ?_⟩
      · rw [gp_u]
        by_cases q : t = i
        · rw [if_pos ⟨rfl, q⟩, q]
        · rw [if_neg (by omega)]
          exact hI.2 t (by omega) hts
      · show L_X1_winningGoer_2 n _ (f + 1) (nI i) m' = _
        rw [L_X1_winningGoer_2]
        simp (disch := omega) only [e6, gp_lt, hi, if_true, hw, Option.bind_some, gp_lit, gp_eq, Nat.one_ne_zero, if_false, hwa, gp_wr, nI_add]
    · rw [if_neg hz] at hw
      refine ⟨m', ⟨hI.1, fun t ht hts => ?_⟩, ?_⟩
      · by_cases q : t = i
        · rw [q] at hts
          exact absurd (gp_df0.mpr hts) hz
        · exact hI.2 t (by omega) hts
      · show L_X1_winningGoer_2 n _ (f + 1) (nI i) m' = _
        rw [L_X1_winningGoer_2]
        simp (disch := omega) only [e6, gp_lt, hi, if_true, hw, Option.bind_some, gp_lit, nI_add]
  · have h' := h.fr (hI.1.1 8 (by omega)) (hI.1.1 33 (by omega))
    have hm := gp_wmL (A := A) (p := 7) hn h' hg hL (fun _ z => z) (B := O) (fun j hj _ => a.2.2.2.2.2.1 j hj) hI.2
    show L_X1_winningGoer_2 n _ (f + 1) (nI L) m' = _
    rw [L_X1_winningGoer_2]
    simp (disch := omega) only [h'.2.1, h'.2.2.1, gp_lt, Nat.lt_irrefl, if_false, hm, Option.bind_some]
/-- counting down -/
def gp_dn (N q : Nat) : Int32 := nI (N - q) - nI 1
theorem gp_dn_lt {N q : Nat} (h : q < N) : gp_dn N q = nI (N - q - 1) := pk_sub (by omega)
theorem gp_dn_s {N q : Nat} (h : q < N) : gp_dn N q + -nI 1 = gp_dn N (q + 1) := by
  rw [gp_dn_lt h, gp_dn, show N - (q + 1) = N - q - 1 by omega, Int32.sub_eq_add_neg]
theorem gp_dn_e {N : Nat} : gp_dn N N < nI 0 := by
  unfold gp_dn
  rw [Nat.sub_self]
  decide
def gp_s55 (m : gn_M) (g : Nat) (A : Nat → Nat → Bool) (lo : Nat) : Prop := ∀ t, lo ≤ t → t < 2 ^ g → ∀ p, p ≤ 7 → m.1 55 (8 * t + p) = nI (if gp_w g A (gp_df (2 ^ g - 1) t) p = true then 1 else 0)
theorem gp_c_tb {t i : Nat} (hi : i < g) : (gp_df (2 ^ g - 1) t).testBit i = !t.testBit i := by
  rw [gp_df_tb, Nat.testBit_two_pow_sub_one]
  simp [hi]
theorem gp_c_or {t i : Nat} : gp_df (2 ^ g - 1) (t ||| 2 ^ i) = gp_df (gp_df (2 ^ g - 1) t) (2 ^ i) := by
  apply Nat.eq_of_testBit_eq
  intro x
  rw [gp_df_tb, gp_rm_tb, gp_df_tb, Nat.testBit_or, Nat.testBit_two_pow]
  cases (2 ^ g - 1).testBit x <;> cases t.testBit x <;> simp
theorem gp_du57 {n : Nat} (hn : 5000 ≤ n) (hM : gp_cM m g d K Wt T G l S) (o : gp_ok g d K Wt T G l S) (hN : gp_nM m g nm) (hL : L < 2 ^ g) {t p : Nat} (ht : t < 2 ^ g) (hp : p ≤ 7) (h55 : gp_s55 m g (gp_A L l nm) (t + 1)) (k : Int32 → Option (Int32 × gn_M)) : L_X4_duel_57 n m (nI L) (nI t) (nI p) k n (-nI 9) (gp_dn g 0) = k (gp_fi (gp_P g (gp_A L l nm) (gp_df (2 ^ g - 1) t) p) g 0) := by
  have hg := o.g7
  have h7 := gp_p7 hg
  obtain ⟨A, hA⟩ : ∃ A, A = gp_A L l nm := ⟨_, rfl⟩
  rw [← hA] at h55 ⊢
  have e9 : gp_fi (gp_P g A (gp_df (2 ^ g - 1) t) p) g 0 = gp_fi (gp_P g A (gp_df (2 ^ g - 1) t) p) g (g - g) := by rw [Nat.sub_self]
  rw [e9]
  refine gp_lp0 (Lf := fun f q (acc : Int32) => L_X4_duel_57 n m (nI L) (nI t) (nI p) k f acc (gp_dn g q)) (N := g) (A := fun q => gp_fi (gp_P g A (gp_df (2 ^ g - 1) t) p) q (g - q)) (fun f q hq => ?_) (fun f => ?_) (by omega)
  · show L_X4_duel_57 n m (nI L) (nI t) (nI p) k (f + 1) _ (gp_dn g q) = _
    rw [L_X4_duel_57]
    obtain ⟨i, hi⟩ : ∃ i, i = g - q - 1 := ⟨_, rfl⟩
    have hig : i < g := by omega
    have hdn : gp_dn g q = nI i := by rw [gp_dn_lt hq, hi]
    have hds : nI i + -nI 1 = gp_dn g (q + 1) := by rw [← hdn, gp_dn_s hq]
    have hfi : gp_fi (gp_P g A (gp_df (2 ^ g - 1) t) p) (q + 1) (g - (q + 1)) = if gp_P g A (gp_df (2 ^ g - 1) t) p i = true then nI i else gp_fi (gp_P g A (gp_df (2 ^ g - 1) t) p) q (g - q) := by
      rw [gp_fi, show g - (q + 1) = i by omega, show i + 1 = g - q by omega]
    show _ = L_X4_duel_57 n m (nI L) (nI t) (nI p) k f (gp_fi (gp_P g A (gp_df (2 ^ g - 1) t) p) (q + 1) (g - (q + 1))) (gp_dn g (q + 1))
    rw [hfi, hdn]
    have hmg := gp_mgL hM o hN (p := p) (j := i) hp hig
    have hct := gp_c_tb (g := g) (t := t) hig
    have hPd : gp_P g A (gp_df (2 ^ g - 1) t) p i = (!t.testBit i && (L.testBit i && gp_mg l nm p i) && !gp_w g A (gp_df (gp_df (2 ^ g - 1) t) (2 ^ i)) i) := by
      unfold gp_P
      rw [hct, hA]
      rfl
    rw [hPd]
    have h2 := gp_2i (i := i) (by omega)
    unfold gn_jn
    by_cases c1 : L.testBit i = true
    · by_cases c2 : t.testBit i = true
      · simp (disch := omega) only [gp_lit, gp_lt, Nat.not_lt_zero, if_false, if_true, gp_has, c1, c2, gp_bs, gp_eq, Nat.one_ne_zero, hds, Bool.not_true, Bool.false_and, Bool.false_eq_true]
      · have c2' : t.testBit i = false := by simpa using c2
        by_cases c3 : gp_mg l nm p i = true
        · obtain ⟨b1, b2⟩ := gp_addb c2'
          have hor : t ||| 2 ^ i < 2 ^ g := gp_or_lt ht (gp_2_lt hig)
          have hgt : t < t ||| 2 ^ i := by
            have := gp_rm_less b1
            rw [b2] at this
            exact this
          have e55 := h55 (t ||| 2 ^ i) (by omega) hor i (by omega)
          rw [gp_c_or] at e55
          cases c4 : gp_w g A (gp_df (gp_df (2 ^ g - 1) t) (2 ^ i)) i
          · simp only [c4, Bool.false_eq_true, if_false] at e55
            simp (disch := omega) only [gp_lit, gp_lt, Nat.not_lt_zero, if_false, if_true, gp_has, c1, c2', gp_bs, gp_eq, Nat.one_ne_zero, hds, hmg, c3, gp_sh, gp_or, pk_mul, nI_add, gp_rd, e55, Bool.not_false, Bool.and_self, Bool.false_eq_true]
          · simp only [c4, if_true] at e55
            simp (disch := omega) only [gp_lit, gp_lt, Nat.not_lt_zero, if_false, if_true, gp_has, c1, c2', gp_bs, gp_eq, Nat.one_ne_zero, hds, hmg, c3, gp_sh, gp_or, pk_mul, nI_add, gp_rd, e55, Bool.not_true, Bool.and_false, Bool.false_eq_true]
        · simp (disch := omega) only [gp_lit, gp_lt, Nat.not_lt_zero, if_false, if_true, gp_has, c1, c2', gp_bs, gp_eq, Nat.one_ne_zero, hds, hmg, c3, Bool.and_false, Bool.false_and, Bool.false_eq_true]
    · simp (disch := omega) only [gp_lit, gp_lt, Nat.not_lt_zero, if_false, if_true, gp_has, c1, gp_bs, hds, Bool.and_false, Bool.false_and, Bool.false_eq_true]
  · show L_X4_duel_57 n m (nI L) (nI t) (nI p) k (f + 1) _ (gp_dn g g) = _
    rw [L_X4_duel_57, gp_lit 0, if_pos gp_dn_e]
theorem gp_du38 {n : Nat} (hn : 5000 ≤ n) (hM : gp_cM m g d K Wt T G l S) (o : gp_ok g d K Wt T G l S) (hN : gp_nM m g nm) (hL : L < 2 ^ g) {t : Nat} (ht : t < 2 ^ g) (h55 : gp_s55 m g (gp_A L l nm) (t + 1)) (v : Int32) (k : Int32 → gn_M → Option (Int32 × gn_M)) : ∃ m', (gp_f1 55 m m' ∧ gp_s55 m' g (gp_A L l nm) t) ∧ L_X4_duel_38 n (nI L) (nI t) k n v (nI 0) m = k (gp_fi (gp_P g (gp_A L l nm) (gp_df (2 ^ g - 1) t) 7) g 0) m' := by
  have hg := o.g7
  have h7 := gp_p7 hg
  obtain ⟨A, hA⟩ : ∃ A, A = gp_A L l nm := ⟨_, rfl⟩
  rw [← hA] at h55 ⊢
  have key := gp_li (Lf := fun f p (x : Int32 × gn_M) => L_X4_duel_38 n (nI L) (nI t) k f x.1 (nI p) x.2) (N := 8) (I := fun p x => (gp_f1 55 m x.2 ∧ gp_s55 x.2 g A (t + 1)) ∧ (∀ p', p' < p → x.2.1 55 (8 * t + p') = nI (if gp_w g A (gp_df (2 ^ g - 1) t) p' = true then 1 else 0)) ∧ ∀ p0, p = p0 + 1 → x.1 = gp_fi (gp_P g A (gp_df (2 ^ g - 1) t) p0) g 0) (kk := fun x => k x.1 x.2) (fun f p x hp hI => ?_) (fun f x hI => ?_) 8 0 n (v, m) (by omega) (by omega) ⟨⟨gp_f1.rfl', h55⟩, fun p' hp' => by omega, fun p0 hp0 => by omega⟩
  · obtain ⟨⟨v', m'⟩, ⟨⟨i1, i2⟩, i3, i4⟩, e⟩ := key
    dsimp only at i1 i2 i3 i4 e
    refine ⟨m', ⟨i1, fun t' h1 h2 p hp => ?_⟩, ?_⟩
    · by_cases q : t' = t
      · rw [q]
        exact i3 p (by omega)
      · exact i2 t' (by omega) h2 p hp
    · rw [← i4 7 rfl]
      exact e
  · obtain ⟨v', m'⟩ := x
    obtain ⟨⟨i1, i2⟩, i3, i4⟩ := hI
    dsimp only at i1 i2 i3 i4
    have hM' := (i1.sf (by omega)).cM hM
    have hN' : gp_nM m' g nm := by unfold gp_nM; rw [i1.1 51 (by omega)]; exact hN
    have e57 := gp_du57 hn hM' o hN' hL ht (show p ≤ 7 by omega) (hA ▸ i2) (fun (e9 : Int32) => (if e9 = (-9 : Int32) then gn_wr m' 55 1024 (((8 : Int32) * (nI t)) + (nI p)) (vp_nar .boolean (0 : Int32)) (fun m10 => L_X4_duel_38 n (nI L) (nI t) k f e9 ((nI p) + (1 : Int32)) m10) else gn_wr m' 55 1024 (((8 : Int32) * (nI t)) + (nI p)) (vp_nar .boolean (1 : Int32)) (fun m11 => L_X4_duel_38 n (nI L) (nI t) k f e9 ((nI p) + (1 : Int32)) m11)))
    rw [← hA] at e57
    have hw := gp_fi_w (A := A) hg (s := gp_df (2 ^ g - 1) t) (p := p)
    obtain ⟨F, hF⟩ : ∃ F, F = gp_fi (gp_P g A (gp_df (2 ^ g - 1) t) p) g 0 := ⟨_, rfl⟩
    rw [← hF] at e57 hw
    refine ⟨(F, gn_up m' 55 (8 * t + p) (nI (if gp_w g A (gp_df (2 ^ g - 1) t) p = true then 1 else 0))), ⟨⟨i1.up, fun t' h1 h2 p' hp' => ?_⟩, fun p' hp' => ?_, fun p0 hp0 => ?_⟩, ?_⟩
    · rw [gp_u, if_neg (by omega)]
      exact i2 t' h1 h2 p' hp'
    · rw [gp_u]
      by_cases q : p' = p
      · rw [if_pos ⟨rfl, by omega⟩, q]
      · rw [if_neg (by omega)]
        exact i3 p' (by omega)
    · rw [show p0 = p by omega]
      exact hF
    · show L_X4_duel_38 n (nI L) (nI t) k (f + 1) v' (nI p) m' = L_X4_duel_38 n (nI L) (nI t) k f F (nI (p + 1)) (gn_up m' 55 (8 * t + p) (nI (if gp_w g A (gp_df (2 ^ g - 1) t) p = true then 1 else 0)))
      rw [L_X4_duel_38]
      have n7 : ¬ ((7 : Int32) < nI p) := fun z => by
        have : 7 < p := (gp_lt (by decide) (by omega)).mp z
        omega
      rw [if_neg n7, hM'.1.1]
      refine Eq.trans e57 ?_
      have v0 : vp_nar .boolean (0 : Int32) = nI 0 := by decide
      have v1 : vp_nar .boolean (1 : Int32) = nI 1 := by decide
      cases c : gp_w g A (gp_df (2 ^ g - 1) t) p
      · have c' : F = (-9 : Int32) := hw.mpr c
        rw [if_pos c', v0]
        simp (disch := omega) only [gp_lit, pk_mul, nI_add, gp_wr, Bool.false_eq_true, if_false]
      · have c' : ¬ F = (-9 : Int32) := fun z => by
          have := hw.mp z
          rw [c] at this
          cases this
        rw [if_neg c', v1]
        simp (disch := omega) only [gp_lit, pk_mul, nI_add, gp_wr, if_true]
  · show L_X4_duel_38 n (nI L) (nI t) k (f + 1) _ (nI 8) _ = _
    rw [L_X4_duel_38, if_pos (by decide)]
end GPD
