/-! PURE: pairs: what both find by a row of them -/
theorem gp_rem2 {s : Nat} (hs : s ≤ 40) : nI s - nI s / nI 2 * nI 2 = nI (s % 2) := pk_rem (by omega) (by omega) (by omega)
theorem gp_fc_cC {m : gn_M} {f g d : Nat} {K Wt T : Nat → Nat} {G l S : Nat} (hM : gp_cM m g d K Wt T G l S) : gp_cM (gp_fc m f) g d K Wt T G l S := hM.fr (by unfold gp_fc; simp (disch := omega) only [gp_une]) (by unfold gp_fc; simp (disch := omega) only [gp_une]) (by unfold gp_fc; simp (disch := omega) only [gp_une]) (by unfold gp_fc; simp (disch := omega) only [gp_une]) (by unfold gp_fc; simp (disch := omega) only [gp_une])
/-- the reference looks at the pairs ahead of a thing -/
def gp_pM (n : Nat) (m : gn_M) (p0 p1 : Int32) (KK : gn_M → Option (Int32 × gn_M)) : Option (Int32 × gn_M) := (f_X4_isGoer m p0).bind (fun x1 => (if x1 = 0 then some ((-1 : Int32), m) else (f_X4_isRow p1).bind (fun x2 => (if x2 = 0 then some ((-1 : Int32), m) else (f_X4_pairs n m p1).bind (fun x3 => (if x3.1 = 0 then KK x3.2 else some (x3.1, x3.2)))))))
section GPPA
variable {g d : Nat} {K Wt T : Nat → Nat} {G l S : Nat}
theorem gp_p52 {n : Nat} (hn : 5000 ≤ n) {m : gn_M} (hC : gp_cC m g d K Wt T G l S) (hg : g ≤ 7) {r s : Nat} (hr : r < 6) (hs : s ≤ 40) (e3 : m.1 3 r = nI s) {k : Unit → Option (Int32 × gn_M)} : ∀ c q f, q + c = s → c < f → (∀ x, q ≤ x → x < s → ∃ v, v < 2 ^ g ∧ m.1 (10 + r) x = nI v) → L_X3_refusalOfPairs_52 n m (nI r) k f (nI q) = k () := by
  intro c
  induction c with
  | zero =>
    intro q f hq hf hv
    obtain ⟨f, rfl⟩ : ∃ f', f = f' + 1 := ⟨f - 1, by omega⟩
    rw [L_X3_refusalOfPairs_52]
    simp (disch := omega) only [gp_rd, e3, gp_lt, show ¬ q < s by omega, if_false]
  | succ c ih =>
    intro q f hq hf hv
    obtain ⟨f, rfl⟩ : ∃ f', f = f' + 1 := ⟨f - 1, by omega⟩
    obtain ⟨v, v1, v2⟩ := hv q (by omega) (by omega)
    have hh := gp_hS hC hg v1
    rw [L_X3_refusalOfPairs_52]
    simp (disch := omega) only [gp_rd, e3, gp_lt, show q < s by omega, if_true, gp_ra, v2, hh, gp_bs, gp_lit, gp_eq, Nat.one_ne_zero, if_false, nI_add]
    exact ih (q + 1) f (by omega) (by omega) (fun x h1 h2 => hv x (by omega) h2)
theorem gp_p52' {n : Nat} (hn : 5000 ≤ n) {m : gn_M} (hC : gp_cC m g d K Wt T G l S) (hg : g ≤ 7) {r s : Nat} (hr : r < 6) (hs : s ≤ 40) (e3 : m.1 3 r = nI s) {k : Unit → Option (Int32 × gn_M)} : ∀ c q f, q + c = s → c < f → ¬ (∀ x, q ≤ x → x < s → ∃ v, v < 2 ^ g ∧ m.1 (10 + r) x = nI v) → L_X3_refusalOfPairs_52 n m (nI r) k f (nI q) = some (-3, gp_fc m 3) := by
  intro c
  induction c with
  | zero =>
    intro q f hq hf hv
    exact absurd (fun x h1 h2 => by omega) hv
  | succ c ih =>
    intro q f hq hf hv
    obtain ⟨f, rfl⟩ : ∃ f', f = f' + 1 := ⟨f - 1, by omega⟩
    rw [L_X3_refusalOfPairs_52]
    have hfd : f_X3_found m (nI 3) = some (-3, gp_fc m 3) := gp_found (by decide)
    rcases gp_sc (d := d) (K := K) (Wt := Wt) (T := T) (G := G) (l := l) (S := S) hg (m.1 (10 + r) q) with ⟨p1, p2⟩ | ⟨v, v1, v2⟩
    · simp (disch := omega) only [gp_rd, e3, gp_lt, show q < s by omega, if_true, gp_ra, p1 m hC, gp_bs, gp_lit, hfd]
    · have hh := gp_hS hC hg v1
      simp (disch := omega) only [gp_rd, e3, gp_lt, show q < s by omega, if_true, gp_ra, v2, hh, gp_bs, gp_lit, gp_eq, Nat.one_ne_zero, if_false, nI_add]
      refine ih (q + 1) f (by omega) (by omega) (fun z => hv (fun x h1 h2 => ?_))
      by_cases e : x = q
      · rw [e]; exact ⟨v, v1, v2⟩
      · exact z x (by omega) h2
theorem gp_p37 {n : Nat} (hn : 5000 ≤ n) {m : gn_M} (hM : gp_cM m g d K Wt T G l S) (hg : g ≤ 7) {r s : Nat} (hr : r < 6) (hs : s ≤ 40) (e40 : m.1 40 r = nI s) {w : Nat → Int32} (hw : ∀ x, x < 40 → m.1 41 (40 * r + x) = w x) {k : Int32 → Option (Int32 × gn_M)} : ∀ c q f, q + c = s → c < f → (∀ x, q ≤ x → x < s → ∃ v, v < 2 ^ g ∧ w x = nI v) → L_X4_pairs_37 n m (nI r) k f (nI 1) (nI q) = k (nI 1) := by
  intro c
  induction c with
  | zero =>
    intro q f hq hf hv
    obtain ⟨f, rfl⟩ : ∃ f', f = f' + 1 := ⟨f - 1, by omega⟩
    rw [L_X4_pairs_37]
    simp (disch := omega) only [gp_rd, e40, gp_lt, show ¬ q < s by omega, if_false]
  | succ c ih =>
    intro q f hq hf hv
    obtain ⟨f, rfl⟩ : ∃ f', f = f' + 1 := ⟨f - 1, by omega⟩
    obtain ⟨v, v1, v2⟩ := hv q (by omega) (by omega)
    have hh := gp_iS hM hg v1
    have h41 := hw q (by omega)
    rw [v2] at h41
    rw [L_X4_pairs_37]
    simp (disch := omega) only [gp_rd, e40, gp_lt, show q < s by omega, if_true, gp_lit, gp_eq, Nat.one_ne_zero, if_false, pk_mul, nI_add, h41, hh, gp_bs]
    exact ih (q + 1) f (by omega) (by omega) (fun x h1 h2 => hv x (by omega) h2)
theorem gp_p37z {n : Nat} (hn : 5000 ≤ n) {m : gn_M} {r s : Nat} (hr : r < 6) (hs : s ≤ 40) (e40 : m.1 40 r = nI s) {k : Int32 → Option (Int32 × gn_M)} : ∀ c q f, q + c = s → c < f → L_X4_pairs_37 n m (nI r) k f (nI 0) (nI q) = k (nI 0) := by
  intro c
  induction c with
  | zero =>
    intro q f hq hf
    obtain ⟨f, rfl⟩ : ∃ f', f = f' + 1 := ⟨f - 1, by omega⟩
    rw [L_X4_pairs_37]
    simp (disch := omega) only [gp_rd, e40, gp_lt, show ¬ q < s by omega, if_false]
  | succ c ih =>
    intro q f hq hf
    obtain ⟨f, rfl⟩ : ∃ f', f = f' + 1 := ⟨f - 1, by omega⟩
    rw [L_X4_pairs_37]
    simp (disch := omega) only [gp_rd, e40, gp_lt, show q < s by omega, if_true, gp_lit, nI_add]
    exact ih (q + 1) f (by omega) (by omega)
theorem gp_p37' {n : Nat} (hn : 5000 ≤ n) {m : gn_M} (hM : gp_cM m g d K Wt T G l S) (hg : g ≤ 7) {r s : Nat} (hr : r < 6) (hs : s ≤ 40) (e40 : m.1 40 r = nI s) {w : Nat → Int32} (hw : ∀ x, x < 40 → m.1 41 (40 * r + x) = w x) {k : Int32 → Option (Int32 × gn_M)} : ∀ c q f, q + c = s → c < f → ¬ (∀ x, q ≤ x → x < s → ∃ v, v < 2 ^ g ∧ w x = nI v) → L_X4_pairs_37 n m (nI r) k f (nI 1) (nI q) = k (nI 0) := by
  intro c
  induction c with
  | zero =>
    intro q f hq hf hv
    exact absurd (fun x h1 h2 => by omega) hv
  | succ c ih =>
    intro q f hq hf hv
    obtain ⟨f, rfl⟩ : ∃ f', f = f' + 1 := ⟨f - 1, by omega⟩
    have h41 := hw q (by omega)
    rw [L_X4_pairs_37]
    rcases gp_sc (d := d) (K := K) (Wt := Wt) (T := T) (G := G) (l := l) (S := S) hg (w q) with ⟨p1, p2⟩ | ⟨v, v1, v2⟩
    · simp (disch := omega) only [gp_rd, e40, gp_lt, show q < s by omega, if_true, gp_lit, gp_eq, Nat.one_ne_zero, if_false, pk_mul, nI_add, h41, p2 m hM, gp_bs]
      exact gp_p37z hn hr hs e40 c (q + 1) f (by omega) (by omega)
    · have hh := gp_iS hM hg v1
      rw [v2] at h41
      simp (disch := omega) only [gp_rd, e40, gp_lt, show q < s by omega, if_true, gp_lit, gp_eq, Nat.one_ne_zero, if_false, pk_mul, nI_add, h41, hh, gp_bs]
      refine ih (q + 1) f (by omega) (by omega) (fun z => hv (fun x h1 h2 => ?_))
      by_cases e : x = q
      · rw [e]; exact ⟨v, v1, v2⟩
      · exact z x (by omega) h2
end GPPA
theorem gp_pairs {n : Nat} (hn : 5000 ≤ n) {m : gn_M} (h : gp_rel m) (a b : Int32) : (∃ r m1 m2, r ≠ 0 ∧ f_X3_refusalOfPairs n m a b = some (r, m1) ∧ (∀ KK, gp_pM n m1 a b KK = some (r, m2)) ∧ gp_rel m2) ∨ (f_X3_refusalOfPairs n m a b = some (0, m) ∧ (∀ m', (∀ c, c ≠ 0 → m'.1 c = m.1 c) → ∀ KK, gp_pM n m' a b KK = KK m') ∧ ∃ (g : Nat) (i r s : Nat) (v : Nat → Nat), g ≤ 7 ∧ m.1 7 6 = nI g ∧ m.1 38 10 = nI g ∧ i < g ∧ a = nI i ∧ r < 6 ∧ b = nI r ∧ s ≤ 40 ∧ s % 2 = 0 ∧ m.1 3 r = nI s ∧ m.1 40 r = nI s ∧ ∀ x, x < s → v x < 2 ^ g ∧ m.1 (10 + r) x = nI (v x) ∧ m.1 41 (40 * r + x) = nI (v x)) := by
  obtain ⟨g, d, K, Wt, T, G, l, S, o, hC, hM⟩ := h.2.2.2.now
  have hg := o.g7
  have n1 : ¬ (nI 1 = (0 : Int32)) := by decide
  rcases gp_gc hC hM hg a with ⟨q1, q2⟩ | ⟨i, hi, rfl, q1, q2⟩
  · refine Or.inl ⟨-1, m, m, by decide, by simp [f_X3_refusalOfPairs, q1, gp_lit], fun KK => by simp [gp_pM, q2, gp_lit], h⟩
  rcases gp_rc h.1 b with ⟨p1, p2⟩ | ⟨r, hr, rfl, p1, p2, p3⟩
  · refine Or.inl ⟨-1, m, m, by decide, ?_, fun KK => ?_, h⟩
    · unfold f_X3_refusalOfPairs f_X3_refusalOfStrip_r
      rw [q1, gp_bs, if_neg n1, p1, gp_bs]
      rfl
    · unfold gp_pM
      rw [q2, gp_bs, if_neg n1, p2, gp_bs]
      rfl
  have e40 := (h.1.2 r hr).1
  have e41 := (h.1.2 r hr).2.2
  have hfind : ∀ f, f < 6 → f ≠ 0 → ∀ KK, (∀ m1, m1 = gp_fc m f → f_X4_pairs n m1 (nI r) = some (-3, gp_fm m1 f)) → gp_pM n (gp_fc m f) (nI i) (nI r) KK = some (-3, gp_fm (gp_fc m f) f) := by
    intro f hf hf0 KK hp
    have hM' := gp_fc_cC (f := f) hM
    unfold gp_pM
    rw [gp_iG hM' hg hi, gp_bs, if_neg n1, p2, gp_bs, if_neg n1, hp _ rfl, gp_bs]
    rfl
  rcases p3 with p3 | ⟨s, hs, p3⟩
  · refine Or.inl ⟨-3, gp_fc m 1, gp_fm (gp_fc m 1) 1, by decide, ?_, fun KK => hfind 1 (by decide) (by decide) KK (fun m1 hm1 => ?_), gp_rel_find h (by decide)⟩
    · have hfd : f_X3_found m (nI 1) = some (-3, gp_fc m 1) := gp_found (by decide)
      simp (disch := omega) [f_X3_refusalOfPairs, f_X3_refusalOfStrip_r, q1, p1, f_X2_missing_r, gp_rd, p3, gp_lit, gp_m1lt, hfd, gp_eq, gp_m3e]
    · have e4 : m1.1 40 r = -1 := by rw [hm1]; unfold gp_fc; rw [gp_une (by omega), gp_une (by omega), e40, p3]
      have hfd : f_X4_find m1 (nI 1) = some (-3, gp_fm m1 1) := gp_find (by decide)
      simp (disch := omega) [f_X4_pairs, gp_rd, e4, gp_lit, gp_m1lt, hfd]
  · rw [p3] at e40
    have nns : (nI s < nI 0) = False := gp_nn (by omega)
    have hrs : f_X3_refusalOfStrip_r m (nI r) = some (nI 0, m) := by
      simp (disch := omega) only [f_X3_refusalOfStrip_r, p1, gp_bs, gp_lit, gp_eq, Nat.one_ne_zero, if_false, f_X2_missing_r, gp_rd, p3, nns, if_true]
    have hrm := gp_rem2 hs
    by_cases c1 : s % 2 = 0
    · by_cases hv : ∀ x, 0 ≤ x → x < s → ∃ v, v < 2 ^ g ∧ m.1 (10 + r) x = nI v
      · right
        refine ⟨?_, fun m' fm KK => ?_, g, i, r, s, fun x => (m.1 (10 + r) x).toNatClampNeg, hg, hC.1.1, hM.1.1, hi, rfl, hr, rfl, hs, c1, p3, e40, fun x hx => ?_⟩
        · have e52 := gp_p52 hn hC hg hr hs p3 (k := fun (_ : Unit) => some ((0 : Int32), m)) s 0 n (by omega) (by omega) hv
          simp (disch := omega) only [f_X3_refusalOfPairs, q1, gp_bs, gp_lit, gp_eq, Nat.one_ne_zero, if_false, hrs, if_true, gp_rd, p3, hrm, c1]
          exact e52
        · have hM' : gp_cM m' g d K Wt T G l S := hM.fr (by rw [fm 38 (by omega)]) (by rw [fm 38 (by omega)]) (fm 45 (by omega)) (fm 46 (by omega)) (fm 48 (by omega))
          have e40' : m'.1 40 r = nI s := by rw [fm 40 (by omega)]; exact e40
          have e37 := gp_p37 hn hM' hg hr hs e40' (w := fun x => m.1 (10 + r) x) (fun x hx => by rw [fm 41 (by omega)]; exact e41 x hx) (k := fun (e8 : Int32) => (if e8 = 0 then (f_X4_find m' (3 : Int32)).bind (fun x9 => some (x9.1, x9.2)) else some ((0 : Int32), m'))) s 0 n (by omega) (by omega) hv
          have ep : f_X4_pairs n m' (nI r) = some (nI 0, m') := by
            simp (disch := omega) only [f_X4_pairs, gp_rd, e40', gp_lit, nns, if_false, hrm, gp_eq, show ¬ s % 2 = 1 by omega]
            exact e37
          unfold gp_pM
          rw [gp_iG hM' hg hi, gp_bs, if_neg n1, p2, gp_bs, if_neg n1, ep, gp_bs]
          rfl
        · obtain ⟨v, v1, v2⟩ := hv x (by omega) hx
          have h7 := gp_p7 hg
          dsimp only
          rw [e41 x (by omega), v2, gp_cl (by omega)]
          exact ⟨v1, rfl, rfl⟩
      · left
        refine ⟨-3, gp_fc m 3, gp_fm (gp_fc m 3) 3, by decide, ?_, fun KK => hfind 3 (by decide) (by decide) KK (fun m1 hm1 => ?_), gp_rel_find h (by decide)⟩
        · have e52 := gp_p52' hn hC hg hr hs p3 (k := fun (_ : Unit) => some ((0 : Int32), m)) s 0 n (by omega) (by omega) hv
          simp (disch := omega) only [f_X3_refusalOfPairs, q1, gp_bs, gp_lit, gp_eq, Nat.one_ne_zero, if_false, hrs, if_true, gp_rd, p3, hrm, c1]
          exact e52
        · have hM1 : gp_cM m1 g d K Wt T G l S := by rw [hm1]; exact gp_fc_cC hM
          have e4 : m1.1 40 r = nI s := by rw [hm1]; unfold gp_fc; rw [gp_une (by omega), gp_une (by omega), e40]
          have hfd : f_X4_find m1 (nI 3) = some (-3, gp_fm m1 3) := gp_find (by decide)
          have e37 := gp_p37' hn hM1 hg hr hs e4 (w := fun x => m.1 (10 + r) x) (fun x hx => by rw [hm1]; unfold gp_fc; rw [gp_une (by omega), gp_une (by omega)]; exact e41 x hx) (k := fun (e8 : Int32) => (if e8 = 0 then (f_X4_find m1 (3 : Int32)).bind (fun x9 => some (x9.1, x9.2)) else some ((0 : Int32), m1))) s 0 n (by omega) (by omega) hv
          simp (disch := omega) only [f_X4_pairs, gp_rd, e4, gp_lit, nns, if_false, hrm, gp_eq, show ¬ s % 2 = 1 by omega]
          refine Eq.trans e37 ?_
          show (f_X4_find m1 (nI 3)).bind _ = _
          rw [hfd]
          rfl
    · left
      refine ⟨-3, gp_fc m 5, gp_fm (gp_fc m 5) 5, by decide, ?_, fun KK => hfind 5 (by decide) (by decide) KK (fun m1 hm1 => ?_), gp_rel_find h (by decide)⟩
      · have hfd : f_X3_found m (nI 5) = some (-3, gp_fc m 5) := gp_found (by decide)
        simp (disch := omega) only [f_X3_refusalOfPairs, q1, gp_bs, gp_lit, gp_eq, Nat.one_ne_zero, if_false, hrs, if_true, gp_rd, p3, hrm, c1, hfd]
      · have e4 : m1.1 40 r = nI s := by rw [hm1]; unfold gp_fc; rw [gp_une (by omega), gp_une (by omega), e40]
        have hfd : f_X4_find m1 (nI 5) = some (-3, gp_fm m1 5) := gp_find (by decide)
        simp (disch := omega) only [f_X4_pairs, gp_rd, e4, gp_lit, nns, if_false, hrm, gp_eq, show s % 2 = 1 by omega, if_true, hfd, gp_bs]
