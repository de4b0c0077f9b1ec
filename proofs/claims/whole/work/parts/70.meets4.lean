/-! PURE: meetings, the whole -/
section GPMH
variable {m m' : gn_M} {g d : Nat} {K Wt T : Nat → Nat} {G l S : Nat}
theorem gp_a10 {a : Nat} (ha : a < 100) : nI a / nI 10 = nI (a / 10) ∧ nI a - nI (a / 10) * nI 10 = nI (a % 10) := by
  have ed : nI a / nI 10 = nI (a / 10) := pk_div (by omega) (by omega) (by omega)
  refine ⟨ed, ?_⟩
  rw [← ed]
  exact pk_rem (by omega) (by omega) (by omega)
theorem gp_two_d {g G a : Nat} (h : gp_two g G a = true) : a / 10 < a % 10 ∧ a % 10 < g := by
  apply Classical.byContradiction
  intro z
  rw [gp_two_no z] at h
  cases h
theorem gp_W_hi {Q : Nat → Bool} {v : Nat → Int32} (hg : g ≤ 7) (h : ∀ x, gp_two g G x = false → Q x = false) {a : Nat} (ha : 57 ≤ a) (ha2 : a ≤ 100) : gp_W Q v a = -nI 9 := by
  have hs := gp_W_skip (Q := Q) (v := v) (a := a) (100 - a) (by omega) (fun x h1 h2 => h x (gp_two_no (by omega)))
  rw [hs, show a + (100 - a) = 100 by omega, gp_W_end]
theorem gp_q1_no {T' : Nat → Nat} (x : Nat) (h : gp_two g G x = false) : gp_q1 g K G l T' x = false := by
  unfold gp_q1
  rw [h]
  rfl
theorem gp_q2_no {T' : Nat → Nat} (x : Nat) (h : gp_two g G x = false) : gp_q2 g K G l T' x = false := by
  unfold gp_q2
  rw [h]
  rfl
theorem gp_me31 {n : Nat} (hn : 5000 ≤ n) {m0 : gn_M} (hM : gp_cM m0 g d K Wt T G l S) (o : gp_ok g d K Wt T G l S) {k : gn_M → Option (Int32 × gn_M)} : ∀ c a f m, a + c = 57 → c < f → gp_sf m0 m → ∃ m', gp_sf m0 m' ∧ L_X4_meetings_31 n k f (nI a) m = if gp_W (gp_q1 g K G l T) nI a = -nI 9 then k m' else some (nI 1, gn_up m' 38 2 (gp_W (gp_q1 g K G l T) nI a)) := by
  have hg := o.g7
  intro c
  induction c with
  | zero =>
    intro a f m ha hf hI
    obtain ⟨f, rfl⟩ : ∃ f', f = f' + 1 := ⟨f - 1, by omega⟩
    refine ⟨m, hI, ?_⟩
    rw [if_pos (gp_W_hi hg gp_q1_no (by omega) (by omega)), L_X4_meetings_31]
    simp (disch := omega) only [gp_lit, gp_lt, show 56 < a by omega, if_true]
  | succ c ih =>
    intro a f m ha hf hI
    obtain ⟨f, rfl⟩ : ∃ f', f = f' + 1 := ⟨f - 1, by omega⟩
    have hM' := hI.cM hM
    have htw := gp_twoM hM' o (a := a) (by omega)
    obtain ⟨ed, er⟩ := gp_a10 (a := a) (by omega)
    rw [L_X4_meetings_31]
    cases c1 : gp_two g G a
    · rw [c1] at htw
      obtain ⟨m', b1, b2⟩ := ih (a + 1) f m (by omega) (by omega) hI
      refine ⟨m', b1, ?_⟩
      rw [gp_W_miss (by omega) (gp_q1_no a c1), ← b2]
      simp (disch := omega) only [gp_lit, gp_lt, show ¬ 56 < a by omega, if_false, htw, gp_bs, Bool.false_eq_true, if_true, nI_add]
    · rw [c1] at htw
      obtain ⟨z1, z2⟩ := gp_two_d c1
      obtain ⟨m1, b1, b2, b3⟩ := gp_ttL hn hM' o
      have hM1 := (b2.sf (by omega)).cM hM'
      obtain ⟨m2, c2, c3, c4⟩ := gp_mtM hM1 o (i := a / 10) (j := a % 10) (by omega) z2 (by omega) b3
      have hM2 := (c3.sf (by omega)).cM hM1
      obtain ⟨m3, d1, d2⟩ := gp_caM hn hM2 o c4 (gp_mt_lt (by omega) z2 (fun y hy => (o.2.2.1 y hy).2.2.1))
      have hI3 := ((hI.tr (b2.sf (by omega))).tr (c3.sf (by omega))).tr d2
      have hq : gp_q1 g K G l T a = gp_ca g K G l (gp_mt K T (a / 10) (a % 10)) := by
        unfold gp_q1
        rw [c1]
        rfl
      cases hca : gp_ca g K G l (gp_mt K T (a / 10) (a % 10))
      · rw [hca] at d1 hq
        obtain ⟨m', x1, x2⟩ := ih (a + 1) f m3 (by omega) (by omega) hI3
        refine ⟨m', x1, ?_⟩
        rw [gp_W_miss (by omega) hq, ← x2]
        simp (disch := omega) only [gp_lit, gp_lt, show ¬ 56 < a by omega, if_false, htw, gp_bs, if_true, gp_eq, Nat.one_ne_zero, b1, ed, er, c2, d1, Bool.false_eq_true, nI_add]
      · rw [hca] at d1 hq
        refine ⟨m3, hI3, ?_⟩
        rw [gp_W_hit (by omega) hq, if_neg (gp_9ne (by omega))]
        simp (disch := omega) only [gp_lit, gp_lt, show ¬ 56 < a by omega, if_false, htw, gp_bs, if_true, gp_eq, Nat.one_ne_zero, b1, ed, er, c2, d1, gp_tM]
theorem gp_me92 {n : Nat} (hn : 5000 ≤ n) {m0 : gn_M} (hM : gp_cM m0 g d K Wt T G l S) (o : gp_ok g d K Wt T G l S) {a : Nat} (ha : a < 100) (h2 : gp_two g G a = true) {k : gn_M → Option (Int32 × gn_M)} : ∀ c b f m, b + c = 57 → c < f → gp_sf m0 m → ∃ m', gp_sf m0 m' ∧ L_X4_meetings_92 n (nI a) k f (nI b) m = if gp_W (gp_q1 g K G l (gp_mt K T (a / 10) (a % 10))) nI b = -nI 9 then k m' else some (nI 2, gn_up m' 38 2 (nI 100 * nI a + gp_W (gp_q1 g K G l (gp_mt K T (a / 10) (a % 10))) nI b)) := by
  have hg := o.g7
  obtain ⟨z1, z2⟩ := gp_two_d h2
  obtain ⟨eda, era⟩ := gp_a10 (a := a) (by omega)
  have hTl : ∀ y, y < g → T y < 2 ^ g := fun y hy => (o.2.2.1 y hy).2.2.1
  have hTl2 := gp_mt_lt (K := K) (i := a / 10) (j := a % 10) (by omega) z2 hTl
  intro c
  induction c with
  | zero =>
    intro b f m hb hf hI
    obtain ⟨f, rfl⟩ : ∃ f', f = f' + 1 := ⟨f - 1, by omega⟩
    refine ⟨m, hI, ?_⟩
    rw [if_pos (gp_W_hi hg gp_q1_no (by omega) (by omega)), L_X4_meetings_92]
    simp (disch := omega) only [gp_lit, gp_lt, show 56 < b by omega, if_true]
  | succ c ih =>
    intro b f m hb hf hI
    obtain ⟨f, rfl⟩ : ∃ f', f = f' + 1 := ⟨f - 1, by omega⟩
    have hM' := hI.cM hM
    have htwa := gp_twoM hM' o (a := a) (by omega)
    rw [h2] at htwa
    have htw := gp_twoM hM' o (a := b) (by omega)
    obtain ⟨ed, er⟩ := gp_a10 (a := b) (by omega)
    rw [L_X4_meetings_92]
    cases c1 : gp_two g G b
    · rw [c1] at htw
      obtain ⟨m', b1, b2⟩ := ih (b + 1) f m (by omega) (by omega) hI
      refine ⟨m', b1, ?_⟩
      rw [gp_W_miss (by omega) (gp_q1_no b c1), ← b2]
      simp (disch := omega) only [gp_lit, gp_lt, show ¬ 56 < b by omega, if_false, htwa, htw, gp_bs, Bool.false_eq_true, if_true, nI_add, gp_eq, Nat.one_ne_zero]
    · rw [c1] at htw
      obtain ⟨y1, y2⟩ := gp_two_d c1
      obtain ⟨m1, b1, b2, b3⟩ := gp_ttL hn hM' o
      have hM1 := (b2.sf (by omega)).cM hM'
      obtain ⟨m2, c2, c3, c4⟩ := gp_mtM hM1 o (i := a / 10) (j := a % 10) (by omega) z2 (by omega) b3
      have hM2 := (c3.sf (by omega)).cM hM1
      obtain ⟨m4, e2, e3, e4⟩ := gp_mtM hM2 o (i := b / 10) (j := b % 10) (by omega) y2 (by omega) c4
      have hM4 := (e3.sf (by omega)).cM hM2
      obtain ⟨m3, d1, d2⟩ := gp_caM hn hM4 o e4 (gp_mt_lt (by omega) y2 hTl2)
      have hI3 := (((hI.tr (b2.sf (by omega))).tr (c3.sf (by omega))).tr (e3.sf (by omega))).tr d2
      have hq : gp_q1 g K G l (gp_mt K T (a / 10) (a % 10)) b = gp_ca g K G l (gp_mt K (gp_mt K T (a / 10) (a % 10)) (b / 10) (b % 10)) := by
        unfold gp_q1
        rw [c1]
        rfl
      cases hca : gp_ca g K G l (gp_mt K (gp_mt K T (a / 10) (a % 10)) (b / 10) (b % 10))
      · rw [hca] at d1 hq
        obtain ⟨m', x1, x2⟩ := ih (b + 1) f m3 (by omega) (by omega) hI3
        refine ⟨m', x1, ?_⟩
        rw [gp_W_miss (by omega) hq, ← x2]
        simp (disch := omega) only [gp_lit, gp_lt, show ¬ 56 < b by omega, if_false, htwa, htw, gp_bs, if_true, gp_eq, Nat.one_ne_zero, b1, eda, era, ed, er, c2, e2, d1, Bool.false_eq_true, nI_add]
      · rw [hca] at d1 hq
        refine ⟨m3, hI3, ?_⟩
        rw [gp_W_hit (by omega) hq, if_neg (gp_9ne (by omega))]
        simp (disch := omega) only [gp_lit, gp_lt, show ¬ 56 < b by omega, if_false, htwa, htw, gp_bs, if_true, gp_eq, Nat.one_ne_zero, b1, eda, era, ed, er, c2, e2, d1, gp_tM]
theorem gp_me84 {n : Nat} (hn : 5000 ≤ n) {m0 : gn_M} (hM : gp_cM m0 g d K Wt T G l S) (o : gp_ok g d K Wt T G l S) {k : gn_M → Option (Int32 × gn_M)} : ∀ c a f m, a + c = 57 → c < f → gp_sf m0 m → ∃ m', gp_sf m0 m' ∧ L_X4_meetings_84 n k f (nI a) m = if gp_W (gp_q2 g K G l T) (gp_v2 g K G l T) a = -nI 9 then k m' else some (nI 2, gn_up m' 38 2 (gp_W (gp_q2 g K G l T) (gp_v2 g K G l T) a)) := by
  have hg := o.g7
  intro c
  induction c with
  | zero =>
    intro a f m ha hf hI
    obtain ⟨f, rfl⟩ : ∃ f', f = f' + 1 := ⟨f - 1, by omega⟩
    refine ⟨m, hI, ?_⟩
    rw [if_pos (gp_W_hi hg gp_q2_no (by omega) (by omega)), L_X4_meetings_84]
    simp (disch := omega) only [gp_lit, gp_lt, show 56 < a by omega, if_true]
  | succ c ih =>
    intro a f m ha hf hI
    obtain ⟨f, rfl⟩ : ∃ f', f = f' + 1 := ⟨f - 1, by omega⟩
    have hM' := hI.cM hM
    have n56 : ¬ ((56 : Int32) < nI a) := fun z => by
      have : 56 < a := (gp_lt (by decide) (by omega)).mp z
      omega
    have e1a : nI a + 1 = nI (a + 1) := nI_add a 1
    rw [L_X4_meetings_84, if_neg n56, e1a]
    cases c1 : gp_two g G a
    · obtain ⟨m', b1, b2⟩ := ih (a + 1) f m (by omega) (by omega) hI
      refine ⟨m', b1, ?_⟩
      rw [gp_W_miss (by omega) (gp_q2_no a c1), ← b2]
      have htwa := gp_twoM hM' o (a := a) (by omega)
      rw [c1] at htwa
      obtain ⟨n', rfl⟩ : ∃ n', n = n' + 1 := ⟨n - 1, by omega⟩
      rw [L_X4_meetings_92, if_neg (by decide), htwa, gp_bs]
      rfl
    · obtain ⟨m1, b1, b2⟩ := gp_me92 hn hM o (a := a) (by omega) c1 (k := fun (m16 : gn_M) => L_X4_meetings_84 n k f (nI (a + 1)) m16) 56 1 n m (by omega) (by omega) hI
      have hm1 : gp_W (gp_q1 g K G l (gp_mt K T (a / 10) (a % 10))) nI 1 = gp_m1 g K G l (gp_mt K T (a / 10) (a % 10)) := by
        unfold gp_m1
        rw [gp_W_miss (a := 0) (by omega) (gp_q1_no 0 (gp_two_no (by omega)))]
      rw [hm1] at b2
      have hq : gp_q2 g K G l T a = !decide (gp_m1 g K G l (gp_mt K T (a / 10) (a % 10)) = -nI 9) := by
        unfold gp_q2
        rw [c1]
        rfl
      by_cases hca : gp_m1 g K G l (gp_mt K T (a / 10) (a % 10)) = -nI 9
      · have hq' : gp_q2 g K G l T a = false := by rw [hq]; simp [hca]
        rw [if_pos hca] at b2
        obtain ⟨m', x1, x2⟩ := ih (a + 1) f m1 (by omega) (by omega) b1
        refine ⟨m', x1, ?_⟩
        rw [gp_W_miss (by omega) hq', ← x2]
        exact b2
      · have hq' : gp_q2 g K G l T a = true := by rw [hq]; simp [hca]
        rw [if_neg hca] at b2
        refine ⟨m1, b1, ?_⟩
        have hne : ¬ gp_v2 g K G l T a = -nI 9 := by
          unfold gp_v2
          rcases gp_m1_is (g := g) (K := K) (G := G) (l := l) (T := gp_mt K T (a / 10) (a % 10)) with q | ⟨x, x1, x2⟩
          · exact absurd q hca
          · rw [x2, pk_mul, nI_add]
            exact gp_9ne (by omega)
        rw [gp_W_hit (by omega) hq', if_neg hne]
        exact b2
theorem gp_fm2.sf {c2 : Nat} (h : gp_fm2 c2 m m') (h2 : c2 = 24 ∨ c2 = 25 ∨ c2 = 34) : gp_sf m m' := ⟨fun c hc => h.1 c (by omega) (by omega) (by omega) (by omega), h.2⟩
theorem gp_fm4.sf (h : gp_fm4 m m') : gp_sf m m' := ⟨fun c hc => h.1 c (by omega) (by omega) (by omega) (by omega) (by omega), h.2⟩
end GPMH
theorem op_meetings {n : Nat} (hn : 5000 ≤ n) {m : gn_M} (h : gp_rel m) : ∃ r m1 m2, f_X3_meetings n m = some (r, m1) ∧ f_X4_meetings n m1 = some (r, m2) ∧ gp_rel m2 := by
  obtain ⟨g, d, K, Wt, T, G, l, S, o, hC, hM⟩ := h.2.2.2.now
  have hg := o.g7
  have h7 := gp_p7 hg
  by_cases g0 : g = 0
  · subst g0
    exact ⟨-4, m, m, by simp [f_X3_meetings, hC.1.1, gp_lit], by simp [f_X4_meetings, hM.1.1, gp_lit], h⟩
  have ne0C : ¬ (m.1 7 6 = 0) := by rw [hC.1.1]; exact fun z => g0 ((gp_eq (by omega) (by decide)).mp z)
  have ne0M : ∀ m', gp_cM m' g d K Wt T G l S → ¬ (m'.1 38 10 = 0) := fun m' hM' => by rw [hM'.1.1]; exact fun z => g0 ((gp_eq (by omega) (by decide)).mp z)
  have n1 : ¬ (nI 1 = (0 : Int32)) := by decide
  have hTl : ∀ y, y < g → T y < 2 ^ g := fun y hy => (o.2.2.1 y hy).2.2.1
  obtain ⟨m1, a1, a2⟩ := gp_acL hn hC o (c := 30) (by decide) (by decide) (gp_toldT hC o)
  have sf1 := a2.sf (by omega)
  have refM : ∀ m0, gp_cM m0 g d K Wt T G l S → ∃ m4 m5, f_X4_takeTold n m0 = some m4 ∧ f_X4_canAll n m4 = some (if gp_ca g K G l T then nI 1 else nI 0, m5) ∧ gp_sf m0 m5 := by
    intro m0 hM0
    obtain ⟨m4, b1, b2, b3⟩ := gp_ttL hn hM0 o
    obtain ⟨m5, c1, c2⟩ := gp_caM hn ((b2.sf (by omega)).cM hM0) o b3 hTl
    exact ⟨m4, m5, b1, c1, (b2.sf (by omega)).tr c2⟩
  cases hca : gp_ca g K G l T
  · rw [hca] at a1
    obtain ⟨m2, b1, b2⟩ := gp_fmL hn (sf1.cC hC) o (c1 := 30) (c2 := 24) (by omega) (gp_toldT (sf1.cC hC) o)
    have sf2 := sf1.tr (b2.sf (by omega))
    by_cases h1 : gp_m1 g K G l T = -nI 9
    · obtain ⟨m3, c1, c2⟩ := gp_ftL hn (sf2.cC hC) o
      have sf3 := sf2.tr c2.sf
      by_cases h2 : gp_m2 g K G l T = -nI 9
      · have hM3 := sf3.cM hM
        obtain ⟨m4, m5, r1, r2, r3⟩ := refM m3 hM3
        rw [hca] at r2
        have hM5 := r3.cM hM3
        obtain ⟨m6, s1, s2⟩ := gp_me31 hn hM5 o (k := fun (m8 : gn_M) => L_X4_meetings_84 n (fun (m17 : gn_M) => some ((-9 : Int32), m17)) n (1 : Int32) m8) 56 1 n m5 (by omega) (by omega) gp_sf.rfl'
        have e1 : gp_W (gp_q1 g K G l T) nI 1 = gp_m1 g K G l T := by
          unfold gp_m1
          rw [gp_W_miss (a := 0) (by omega) (gp_q1_no 0 (gp_two_no (by omega)))]
        rw [e1, if_pos h1] at s2
        obtain ⟨m7, t1, t2⟩ := gp_me84 hn hM5 o (k := fun (m17 : gn_M) => some ((-9 : Int32), m17)) 56 1 n m6 (by omega) (by omega) s1
        have e2 : gp_W (gp_q2 g K G l T) (gp_v2 g K G l T) 1 = gp_m2 g K G l T := by
          unfold gp_m2
          rw [gp_W_miss (a := 0) (by omega) (gp_q2_no 0 (gp_two_no (by omega)))]
        rw [e2, if_pos h2] at t2
        refine ⟨-9, m3, m7, ?_, ?_, ((sf3.tr r3).tr t1).rel h⟩
        · unfold f_X3_meetings
          rw [if_neg ne0C, a1, gp_bs]
          show (if (nI 0 : Int32) = 0 then _ else _) = _
          rw [if_pos (by decide), b1, gp_bs]
          show (if gp_m1 g K G l T = -nI 9 then _ else _) = _
          rw [if_pos h1, c1, gp_bs]
          show (if gp_m2 g K G l T = -nI 9 then _ else _) = _
          rw [if_pos h2]
        · unfold f_X4_meetings
          rw [if_neg (ne0M m3 hM3), r1, gp_bs, r2, gp_bs]
          show (if (nI 0 : Int32) = 0 then _ else _) = _
          rw [if_pos (by decide)]
          exact s2.trans t2
      · have hM3 : gp_cM (gn_up m3 0 10 (gp_m2 g K G l T)) g d K Wt T G l S := (sf3.cM hM).fr rfl rfl rfl rfl rfl
        obtain ⟨m4, m5, r1, r2, r3⟩ := refM _ hM3
        rw [hca] at r2
        have hM5 := r3.cM hM3
        obtain ⟨m6, s1, s2⟩ := gp_me31 hn hM5 o (k := fun (m8 : gn_M) => L_X4_meetings_84 n (fun (m17 : gn_M) => some ((-9 : Int32), m17)) n (1 : Int32) m8) 56 1 n m5 (by omega) (by omega) gp_sf.rfl'
        have e1 : gp_W (gp_q1 g K G l T) nI 1 = gp_m1 g K G l T := by
          unfold gp_m1
          rw [gp_W_miss (a := 0) (by omega) (gp_q1_no 0 (gp_two_no (by omega)))]
        rw [e1, if_pos h1] at s2
        obtain ⟨m7, t1, t2⟩ := gp_me84 hn hM5 o (k := fun (m17 : gn_M) => some ((-9 : Int32), m17)) 56 1 n m6 (by omega) (by omega) s1
        have e2 : gp_W (gp_q2 g K G l T) (gp_v2 g K G l T) 1 = gp_m2 g K G l T := by
          unfold gp_m2
          rw [gp_W_miss (a := 0) (by omega) (gp_q2_no 0 (gp_two_no (by omega)))]
        rw [e2, if_neg h2] at t2
        refine ⟨nI 2, gn_up m3 0 10 (gp_m2 g K G l T), gn_up m7 38 2 (gp_m2 g K G l T), ?_, ?_, gp_sf_told h sf3 (r3.tr t1)⟩
        · unfold f_X3_meetings
          rw [if_neg ne0C, a1, gp_bs]
          show (if (nI 0 : Int32) = 0 then _ else _) = _
          rw [if_pos (by decide), b1, gp_bs]
          show (if gp_m1 g K G l T = -nI 9 then _ else _) = _
          rw [if_pos h1, c1, gp_bs]
          show (if gp_m2 g K G l T = -nI 9 then _ else _) = _
          rw [if_neg h2]
          rfl
        · unfold f_X4_meetings
          rw [if_neg (ne0M _ hM3), r1, gp_bs, r2, gp_bs]
          show (if (nI 0 : Int32) = 0 then _ else _) = _
          rw [if_pos (by decide)]
          exact s2.trans t2
    · have hM3 : gp_cM (gn_up m2 0 10 (gp_m1 g K G l T)) g d K Wt T G l S := (sf2.cM hM).fr rfl rfl rfl rfl rfl
      obtain ⟨m4, m5, r1, r2, r3⟩ := refM _ hM3
      rw [hca] at r2
      have hM5 := r3.cM hM3
      obtain ⟨m6, s1, s2⟩ := gp_me31 hn hM5 o (k := fun (m8 : gn_M) => L_X4_meetings_84 n (fun (m17 : gn_M) => some ((-9 : Int32), m17)) n (1 : Int32) m8) 56 1 n m5 (by omega) (by omega) gp_sf.rfl'
      have e1 : gp_W (gp_q1 g K G l T) nI 1 = gp_m1 g K G l T := by
        unfold gp_m1
        rw [gp_W_miss (a := 0) (by omega) (gp_q1_no 0 (gp_two_no (by omega)))]
      rw [e1, if_neg h1] at s2
      refine ⟨nI 1, gn_up m2 0 10 (gp_m1 g K G l T), gn_up m6 38 2 (gp_m1 g K G l T), ?_, ?_, gp_sf_told h sf2 (r3.tr s1)⟩
      · unfold f_X3_meetings
        rw [if_neg ne0C, a1, gp_bs]
        show (if (nI 0 : Int32) = 0 then _ else _) = _
        rw [if_pos (by decide), b1, gp_bs]
        show (if gp_m1 g K G l T = -nI 9 then _ else _) = _
        rw [if_neg h1]
        rfl
      · unfold f_X4_meetings
        rw [if_neg (ne0M _ hM3), r1, gp_bs, r2, gp_bs]
        show (if (nI 0 : Int32) = 0 then _ else _) = _
        rw [if_pos (by decide)]
        exact s2
  · rw [hca] at a1
    have hM3 : gp_cM (gn_up m1 0 10 0) g d K Wt T G l S := (sf1.cM hM).fr rfl rfl rfl rfl rfl
    obtain ⟨m4, m5, r1, r2, r3⟩ := refM _ hM3
    rw [hca] at r2
    refine ⟨0, gn_up m1 0 10 0, gn_up m5 38 2 0, ?_, ?_, gp_sf_told h sf1 r3⟩
    · unfold f_X3_meetings
      rw [if_neg ne0C, a1, gp_bs]
      show (if (nI 1 : Int32) = 0 then _ else _) = _
      rw [if_neg n1]
      rfl
    · unfold f_X4_meetings
      rw [if_neg (ne0M _ hM3), r1, gp_bs, r2, gp_bs]
      show (if (nI 1 : Int32) = 0 then _ else _) = _
      rw [if_neg n1]
      rfl
