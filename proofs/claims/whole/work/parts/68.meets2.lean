/-! PURE: meetings: the class looks for them -/
/-- the first of which it is so, and what it is then -/
def gp_fv (Q : Nat → Bool) (v : Nat → Int32) : Nat → Nat → Int32
  | 0, _ => -nI 9
  | k + 1, i => if Q i then v i else gp_fv Q v k (i + 1)
def gp_W (Q : Nat → Bool) (v : Nat → Int32) (a : Nat) : Int32 := gp_fv Q v (100 - a) a
theorem gp_W_hit {Q : Nat → Bool} {v : Nat → Int32} {a : Nat} (ha : a < 100) (h : Q a = true) : gp_W Q v a = v a := by
  unfold gp_W
  obtain ⟨k, hk⟩ : ∃ k, 100 - a = k + 1 := ⟨99 - a, by omega⟩
  rw [hk, gp_fv, if_pos h]
theorem gp_W_miss {Q : Nat → Bool} {v : Nat → Int32} {a : Nat} (ha : a < 100) (h : Q a = false) : gp_W Q v a = gp_W Q v (a + 1) := by
  unfold gp_W
  obtain ⟨k, hk⟩ : ∃ k, 100 - a = k + 1 := ⟨99 - a, by omega⟩
  rw [hk, gp_fv, if_neg (by rw [h]; decide), show 100 - (a + 1) = k by omega]
theorem gp_W_skip {Q : Nat → Bool} {v : Nat → Int32} {a : Nat} : ∀ k, a + k ≤ 100 → (∀ x, a ≤ x → x < a + k → Q x = false) → gp_W Q v a = gp_W Q v (a + k)
  | 0, _, _ => rfl
  | k + 1, hk, h => by
    rw [gp_W_skip k (by omega) (fun x h1 h2 => h x h1 (by omega)), gp_W_miss (by omega) (h (a + k) (by omega) (by omega))]
    rfl
theorem gp_W_end {Q : Nat → Bool} {v : Nat → Int32} : gp_W Q v 100 = -nI 9 := rfl
theorem gp_W_is {Q : Nat → Bool} {v : Nat → Int32} : ∀ k a, a + k = 100 → gp_W Q v a = -nI 9 ∨ ∃ x, x < 100 ∧ Q x = true ∧ gp_W Q v a = v x
  | 0, a, h => Or.inl (by rw [show a = 100 by omega]; rfl)
  | k + 1, a, h => by
    cases c : Q a
    · rw [gp_W_miss (by omega) c]
      exact gp_W_is k (a + 1) (by omega)
    · exact Or.inr ⟨a, by omega, c, gp_W_hit (by omega) c⟩
/-- two who can meet -/
def gp_two (g G a : Nat) : Bool := decide (a / 10 < a % 10) && decide (a % 10 < g) && (!G.testBit (a / 10) && !G.testBit (a % 10))
def gp_q1 (g : Nat) (K : Nat → Nat) (G l : Nat) (T : Nat → Nat) (a : Nat) : Bool := gp_two g G a && gp_ca g K G l (gp_mt K T (a / 10) (a % 10))
def gp_m1 (g : Nat) (K : Nat → Nat) (G l : Nat) (T : Nat → Nat) : Int32 := gp_W (gp_q1 g K G l T) nI 0
def gp_q2 (g : Nat) (K : Nat → Nat) (G l : Nat) (T : Nat → Nat) (a : Nat) : Bool := gp_two g G a && !decide (gp_m1 g K G l (gp_mt K T (a / 10) (a % 10)) = -nI 9)
def gp_v2 (g : Nat) (K : Nat → Nat) (G l : Nat) (T : Nat → Nat) (a : Nat) : Int32 := nI 100 * nI a + gp_m1 g K G l (gp_mt K T (a / 10) (a % 10))
def gp_m2 (g : Nat) (K : Nat → Nat) (G l : Nat) (T : Nat → Nat) : Int32 := gp_W (gp_q2 g K G l T) (gp_v2 g K G l T) 0
theorem gp_two_no {g G a : Nat} (h : ¬ (a / 10 < a % 10 ∧ a % 10 < g)) : gp_two g G a = false := by
  unfold gp_two
  by_cases c1 : a / 10 < a % 10
  · have c2 : ¬ a % 10 < g := fun z => h ⟨c1, z⟩
    simp [c2]
  · simp [c1]
theorem gp_two_is {g G i j : Nat} (hij : i < j) (hj : j < g) (hg : g ≤ 7) : gp_two g G (10 * i + j) = (!G.testBit i && !G.testBit j) := by
  unfold gp_two
  rw [show (10 * i + j) / 10 = i by omega, show (10 * i + j) % 10 = j by omega]
  simp [hij, hj]
theorem gp_m1_is {g : Nat} {K : Nat → Nat} {G l : Nat} {T : Nat → Nat} : gp_m1 g K G l T = -nI 9 ∨ ∃ x, x < 100 ∧ gp_m1 g K G l T = nI x := by
  rcases gp_W_is (Q := gp_q1 g K G l T) (v := nI) 100 0 (by omega) with q | ⟨x, h1, -, h2⟩
  · exact Or.inl q
  · exact Or.inr ⟨x, h1, h2⟩
theorem gp_9ne {x : Nat} (h : x < 20000) : ¬ (nI x = -nI 9) := by
  intro z
  have h1 : -nI 9 < nI 0 := by decide
  rw [← z, gp_nn (by omega)] at h1
  exact h1
section GPMF
variable {m m' : gn_M} {g d : Nat} {K Wt T : Nat → Nat} {G l S : Nat}
theorem gp_fm2.cC {c2 : Nat} (h : gp_fm2 c2 m m') (h2 : c2 = 24 ∨ c2 = 25 ∨ c2 = 34) (hC : gp_cC m g d K Wt T G l S) : gp_cC m' g d K Wt T G l S := hC.fr (h.1 7 (by omega) (by omega) (by omega) (by omega)) (h.1 27 (by omega) (by omega) (by omega) (by omega)) (h.1 28 (by omega) (by omega) (by omega) (by omega)) (h.1 30 (by omega) (by omega) (by omega) (by omega)) (h.1 31 (by omega) (by omega) (by omega) (by omega))
theorem gp_fm18 {n : Nat} (hn : 5000 ≤ n) {m0 : gn_M} (hC : gp_cC m0 g d K Wt T G l S) (o : gp_ok g d K Wt T G l S) {c1 c2 : Nat} (hc : (c1 = 30 ∧ c2 = 24) ∨ (c1 = 24 ∧ c2 = 25)) {T' : Nat → Nat} (hT : ∀ j, j < g → m0.1 c1 j = nI (T' j) ∧ T' j < 2 ^ g) {i : Nat} (hi : i < g) {k : gn_M → Option (Int32 × gn_M)} (hk : ∀ m', gp_fm2 c2 m0 m' → ∃ m'', gp_fm2 c2 m0 m'' ∧ k m' = some (gp_W (gp_q1 g K G l T') nI (11 * (i + 1) + 1), m'')) : ∀ c j f m, j + c = g → c < f → i < j → gp_fm2 c2 m0 m → ∃ m', gp_fm2 c2 m0 m' ∧ L_X3_firstMeeting_18 n c1 c2 (nI i) k f (nI j) m = some (gp_W (gp_q1 g K G l T') nI (10 * i + j), m') := by
  have hg := o.g7
  intro c
  induction c with
  | zero =>
    intro j f m hj hf hij hI
    obtain ⟨f, rfl⟩ : ∃ f', f = f' + 1 := ⟨f - 1, by omega⟩
    obtain ⟨m', a1, a2⟩ := hk m hI
    have hC' := hI.cC (by omega) hC
    have hs := gp_W_skip (Q := gp_q1 g K G l T') (v := nI) (a := 10 * i + j) (i + 12 - j) (by omega) (fun x h1 h2 => by
      unfold gp_q1
      rw [gp_two_no (by omega)]
      rfl)
    refine ⟨m', a1, ?_⟩
    rw [L_X3_firstMeeting_18, hs, show 10 * i + j + (i + 12 - j) = 11 * (i + 1) + 1 by omega, ← a2]
    simp (disch := omega) only [hC'.1.1, gp_lt, show ¬ j < g by omega, if_false]
  | succ c ih =>
    intro j f m hj hf hij hI
    obtain ⟨f, rfl⟩ : ∃ f', f = f' + 1 := ⟨f - 1, by omega⟩
    have hjg : j < g := by omega
    have hC' := hI.cC (by omega) hC
    have hcn := gp_cnL hC' o hi hjg hij
    have htw := gp_two_is (G := G) hij hjg hg
    rw [L_X3_firstMeeting_18]
    by_cases c1' : (!G.testBit i && !G.testBit j) = true
    · rw [if_pos c1'] at hcn
      obtain ⟨m1, b1, b2, b3⟩ := gp_mtC hC' o hi hjg (by omega) (c1 := c1) (c2 := c2) (T' := T') (fun x hx => by rw [hI.1 c1 (by omega) (by omega) (by omega) (by omega)]; exact (hT x hx).1)
      have hC1 : gp_cC m1 g d K Wt T G l S := hC'.fr (b2.1 7 (by omega)) (b2.1 27 (by omega)) (b2.1 28 (by omega)) (b2.1 30 (by omega)) (b2.1 31 (by omega))
      obtain ⟨m2, d1, d2⟩ := gp_acL hn hC1 o (c := c2) (by omega) (by omega) (T' := gp_mt K T' i j) (fun x hx => ⟨b3 x hx, gp_mt_lt hi hjg (fun y hy => (hT y hy).2) x hx⟩)
      have hI2 : gp_fm2 c2 m0 m2 := ⟨fun x x1 x2 x3 x4 => by rw [d2.1 x x1 x2 x3 x3, b2.1 x x4]; exact hI.1 x x1 x2 x3 x4, by rw [d2.2, b2.2]; exact hI.2⟩
      have hq : gp_q1 g K G l T' (10 * i + j) = gp_ca g K G l (gp_mt K T' i j) := by
        unfold gp_q1
        rw [htw, c1', show (10 * i + j) / 10 = i by omega, show (10 * i + j) % 10 = j by omega]
        rfl
      cases hca : gp_ca g K G l (gp_mt K T' i j)
      · rw [hca] at d1 hq
        obtain ⟨m3, e1, e2⟩ := ih (j + 1) f m2 (by omega) (by omega) (by omega) hI2
        refine ⟨m3, e1, ?_⟩
        rw [gp_W_miss (by omega) hq]
        simp (disch := omega) only [hC'.1.1, gp_lt, hjg, if_true, hcn, gp_bs, gp_lit, gp_eq, Nat.one_ne_zero, if_false, b1, d1, Bool.false_eq_true, nI_add]
        exact e2
      · rw [hca] at d1 hq
        refine ⟨m2, hI2, ?_⟩
        rw [gp_W_hit (by omega) hq]
        simp (disch := omega) only [hC'.1.1, gp_lt, hjg, if_true, hcn, gp_bs, gp_lit, gp_eq, Nat.one_ne_zero, if_false, b1, d1, pk_mul, nI_add]
    · rw [if_neg c1'] at hcn
      have hq : gp_q1 g K G l T' (10 * i + j) = false := by
        unfold gp_q1
        rw [htw]
        simp only [c1']
        rfl
      obtain ⟨m3, e1, e2⟩ := ih (j + 1) f m (by omega) (by omega) (by omega) hI
      refine ⟨m3, e1, ?_⟩
      rw [gp_W_miss (by omega) hq]
      simp (disch := omega) only [hC'.1.1, gp_lt, hjg, if_true, hcn, gp_bs, gp_lit, nI_add]
      exact e2
theorem gp_fmL {n : Nat} (hn : 5000 ≤ n) {m0 : gn_M} (hC : gp_cC m0 g d K Wt T G l S) (o : gp_ok g d K Wt T G l S) {c1 c2 : Nat} (hc : (c1 = 30 ∧ c2 = 24) ∨ (c1 = 24 ∧ c2 = 25)) {T' : Nat → Nat} (hT : ∀ j, j < g → m0.1 c1 j = nI (T' j) ∧ T' j < 2 ^ g) : ∃ m', f_X3_firstMeeting n m0 c1 c2 = some (gp_m1 g K G l T', m') ∧ gp_fm2 c2 m0 m' := by
  have hg := o.g7
  have key : ∀ c i f m, i + c = g → c < f → gp_fm2 c2 m0 m → ∃ m', gp_fm2 c2 m0 m' ∧ L_X3_firstMeeting_2 n c1 c2 (fun (m5 : gn_M) => some ((-9 : Int32), m5)) f (nI i) m = some (gp_W (gp_q1 g K G l T') nI (11 * i + 1), m') := by
    intro c
    induction c with
    | zero =>
      intro i f m hi hf hI
      obtain ⟨f, rfl⟩ : ∃ f', f = f' + 1 := ⟨f - 1, by omega⟩
      have hC' := hI.cC (by omega) hC
      have hs := gp_W_skip (Q := gp_q1 g K G l T') (v := nI) (a := 11 * i + 1) (99 - 11 * i) (by omega) (fun x h1 h2 => by
        unfold gp_q1
        rw [gp_two_no (by omega)]
        rfl)
      refine ⟨m, hI, ?_⟩
      rw [L_X3_firstMeeting_2, hs, show 11 * i + 1 + (99 - 11 * i) = 100 by omega, gp_W_end]
      simp (disch := omega) only [hC'.1.1, gp_lt, show ¬ i < g by omega, if_false]
      rfl
    | succ c ih =>
      intro i f m hi hf hI
      obtain ⟨f, rfl⟩ : ∃ f', f = f' + 1 := ⟨f - 1, by omega⟩
      have hC' := hI.cC (by omega) hC
      obtain ⟨m', a1, a2⟩ := gp_fm18 hn hC o hc hT (i := i) (by omega) (k := fun (m4 : gn_M) => L_X3_firstMeeting_2 n c1 c2 (fun (m5 : gn_M) => some ((-9 : Int32), m5)) f (nI (i + 1)) m4) (fun m' hI' => ih (i + 1) f m' (by omega) (by omega) hI') (g - (i + 1)) (i + 1) n m (by omega) (by omega) (by omega) hI
      refine ⟨m', a1, ?_⟩
      rw [L_X3_firstMeeting_2]
      rw [show 10 * i + (i + 1) = 11 * i + 1 by omega] at a2
      simp (disch := omega) only [hC'.1.1, gp_lt, show i < g by omega, if_true, gp_lit, nI_add]
      exact a2
  obtain ⟨m', a1, a2⟩ := key g 0 n m0 (by omega) (by omega) ⟨fun _ _ _ _ _ => rfl, rfl⟩
  refine ⟨m', ?_, a1⟩
  unfold f_X3_firstMeeting gp_m1
  rw [gp_W_miss (a := 0) (by omega) (by unfold gp_q1; rw [gp_two_no (by omega)]; rfl)]
  exact a2
end GPMF
