/-! PURE: kinds, test -/
def gp_al (P : Nat → Bool) : Nat → Bool
  | 0 => true
  | k + 1 => gp_al P k && P k
theorem gp_al_no {P : Nat → Bool} {q : Nat} (h : P q = false) : ∀ N, q < N → gp_al P N = false
  | 0, hq => by omega
  | N + 1, hq => by
    rw [gp_al]
    by_cases e : q = N
    · subst e; rw [h]; simp
    · rw [gp_al_no h N (by omega)]; rfl
/-- whether a kind fits the pairs -/
def gp_fp (v : Nat → Nat) (i c : Nat) (q : Nat) : Bool := decide (gp_tl c i (v (2 * q)) = v (2 * q + 1))
section GPKI
variable {m : gn_M} {g i r s : Nat} {v : Nat → Nat}
theorem gp_fpC {n : Nat} (hn : 5000 ≤ n) (hg : g ≤ 7) (hi : i < g) (hr : r < 6) (hs : s ≤ 40) (h2 : s % 2 = 0) (e3 : m.1 3 r = nI s) (hv : ∀ x, x < s → v x < 2 ^ g ∧ m.1 (10 + r) x = nI (v x)) {c : Nat} (hc : c < 6) : f_X3_fitsPairs n m (nI c) (nI i) (nI r) = some (if gp_al (gp_fp v i c) (s / 2) then nI 1 else nI 0) := by
  have h7 := gp_p7 hg
  have key : ∀ k q f, q + k = s / 2 → k < f → gp_al (gp_fp v i c) q = true → L_X3_fitsPairs_14 n m (nI c) (nI i) (nI r) (10 + r) (fun (_ : Unit) => some (1 : Int32)) f (nI (2 * q)) = some (if gp_al (gp_fp v i c) (s / 2) then nI 1 else nI 0) := by
    intro k
    induction k with
    | zero =>
      intro q f hq hf hal
      obtain ⟨f, rfl⟩ : ∃ f', f = f' + 1 := ⟨f - 1, by omega⟩
      rw [show q = s / 2 by omega] at hal ⊢
      rw [L_X3_fitsPairs_14, hal]
      simp (disch := omega) only [gp_rd, e3, gp_lit, nI_add, gp_lt, show ¬ 2 * (s / 2) + 1 < s by omega, if_false, if_true]
    | succ k ih =>
      intro q f hq hf hal
      obtain ⟨f, rfl⟩ : ∃ f', f = f' + 1 := ⟨f - 1, by omega⟩
      rw [L_X3_fitsPairs_14]
      obtain ⟨a1, a2⟩ := hv (2 * q) (by omega)
      obtain ⟨b1, b2⟩ := hv (2 * q + 1) (by omega)
      have ht := gp_tA (c := c) (i := i) (s := v (2 * q)) hc (by omega)
      have htl := gp_tl_lt (c := c) (i := i) a1 hi
      by_cases c1 : gp_tl c i (v (2 * q)) = v (2 * q + 1)
      · simp (disch := omega) only [gp_rd, e3, gp_lit, nI_add, gp_lt, show 2 * q + 1 < s by omega, if_true, a2, b2, ht, gp_bs, gp_eq, c1]
        refine ih (q + 1) f (by omega) (by omega) ?_
        rw [gp_al, hal, gp_fp, decide_eq_true c1]
        rfl
      · rw [gp_al_no (q := q) (by rw [gp_fp, decide_eq_false c1]) (s / 2) (by omega)]
        simp (disch := omega) only [gp_rd, e3, gp_lit, nI_add, gp_lt, show 2 * q + 1 < s by omega, if_true, a2, b2, ht, gp_bs, gp_eq, c1, if_false, Bool.false_eq_true]
  unfold f_X3_fitsPairs
  rw [gp_ra hr (by omega)]
  exact key (s / 2) 0 n (by omega) (by omega) rfl
theorem gp_kpC {n : Nat} (hn : 5000 ≤ n) (hg : g ≤ 7) (hi : i < g) (hr : r < 6) (hs : s ≤ 40) (h2 : s % 2 = 0) (e3 : m.1 3 r = nI s) (hv : ∀ x, x < s → v x < 2 ^ g ∧ m.1 (10 + r) x = nI (v x)) : f_X3_kindsByPairs n m (nI i) (nI r) = some (nI (gp_bs1 (fun c => gp_al (gp_fp v i c) (s / 2)) 6)) := by
  unfold f_X3_kindsByPairs
  refine gp_lp0 (Lf := fun f c (acc : Int32) => L_X3_kindsByPairs_5 n m (nI i) (nI r) (fun e => some e) f acc (nI c)) (N := 6) (A := fun c => nI (gp_bs1 (fun c => gp_al (gp_fp v i c) (s / 2)) c)) (fun f c hc => ?_) (fun f => ?_) (by omega)
  · show L_X3_kindsByPairs_5 n m (nI i) (nI r) _ (f + 1) _ (nI c) = _
    rw [L_X3_kindsByPairs_5]
    have hf := gp_fpC hn hg hi hr hs h2 e3 hv hc
    cases c1 : gp_al (gp_fp v i c) (s / 2)
    · rw [c1] at hf
      simp (disch := omega) only [gp_lit, gp_lt, hc, if_true, hf, gp_bs, Bool.false_eq_true, if_false, nI_add, gp_bs1, c1]
    · rw [c1] at hf
      simp (disch := omega) only [gp_lit, gp_lt, hc, if_true, hf, gp_bs, if_false, gp_eq, Nat.one_ne_zero, gp_sh, gp_or, nI_add, gp_bs1, c1]
  · show L_X3_kindsByPairs_5 n m (nI i) (nI r) _ (f + 1) _ (nI 6) = _
    rw [L_X3_kindsByPairs_5]
    simp (disch := omega) only [gp_lit, gp_lt, Nat.lt_irrefl, if_false]
theorem gp_kpM {n : Nat} (hn : 5000 ≤ n) (hg : g ≤ 7) (hi : i < g) (hr : r < 6) (hs : s ≤ 40) (h2 : s % 2 = 0) (e40 : m.1 40 r = nI s) (hv : ∀ x, x < s → v x < 2 ^ g ∧ m.1 41 (40 * r + x) = nI (v x)) : f_X4_kindsBy n m (nI i) (nI r) = some (nI (gp_bs1 (fun c => gp_al (gp_fp v i c) (s / 2)) 6)) := by
  have h7 := gp_p7 hg
  unfold f_X4_kindsBy
  refine gp_lp0 (Lf := fun f c (acc : Int32) => L_X4_kindsBy_5 n m (nI i) (nI r) (fun e => some e) f acc (nI c)) (N := 6) (A := fun c => nI (gp_bs1 (fun c => gp_al (gp_fp v i c) (s / 2)) c)) (fun f c hc => ?_) (fun f => ?_) (by omega)
  · show L_X4_kindsBy_5 n m (nI i) (nI r) _ (f + 1) _ (nI c) = _
    rw [L_X4_kindsBy_5]
    have inner : ∀ (a3 : Int32) (k : Int32 → Option Int32), L_X4_kindsBy_17 n m (nI i) (nI r) a3 (nI c) k n (nI 1) (nI 0) = k (if gp_al (gp_fp v i c) (s / 2) then nI 1 else nI 0) := by
      intro a3 k
      refine gp_lp0 (Lf := fun f q (acc : Int32) => L_X4_kindsBy_17 n m (nI i) (nI r) a3 (nI c) k f acc (nI (2 * q))) (N := s / 2) (A := fun q => if gp_al (gp_fp v i c) q then nI 1 else nI 0) (fun f q hq => ?_) (fun f => ?_) (by omega)
      · show L_X4_kindsBy_17 n m (nI i) (nI r) a3 (nI c) k (f + 1) _ (nI (2 * q)) = L_X4_kindsBy_17 n m (nI i) (nI r) a3 (nI c) k f _ (nI (2 * (q + 1)))
        rw [L_X4_kindsBy_17]
        obtain ⟨a1, a2⟩ := hv (2 * q) (by omega)
        obtain ⟨b1, b2⟩ := hv (2 * q + 1) (by omega)
        have b2' : m.1 41 (40 * r + 2 * q + 1) = nI (v (2 * q + 1)) := b2
        have ht := gp_tB (c := c) (i := i) (s := v (2 * q)) hc (by omega)
        have htl := gp_tl_lt (c := c) (i := i) a1 hi
        have e2 : 2 * (q + 1) = 2 * q + 2 := by omega
        rw [e2]
        cases c1 : gp_al (gp_fp v i c) q
        · simp (disch := omega) only [gp_rd, e40, gp_lit, nI_add, gp_lt, show 2 * q < s by omega, if_true, Bool.false_eq_true, if_false, gp_al, c1, Bool.false_and]
        · by_cases c2 : gp_tl c i (v (2 * q)) = v (2 * q + 1)
          · have c3 : gp_fp v i c q = true := by rw [gp_fp, decide_eq_true c2]
            simp (disch := omega) only [gp_rd, e40, gp_lit, nI_add, gp_lt, show 2 * q < s by omega, if_true, gp_eq, Nat.one_ne_zero, if_false, pk_mul, a2, b2', ht, gp_bs, c2, gp_al, c1, c3, Bool.and_self]
          · have c3 : gp_fp v i c q = false := by rw [gp_fp, decide_eq_false c2]
            simp (disch := omega) only [gp_rd, e40, gp_lit, nI_add, gp_lt, show 2 * q < s by omega, if_true, gp_eq, Nat.one_ne_zero, if_false, pk_mul, a2, b2', ht, gp_bs, c2, gp_al, c1, c3, Bool.and_false, Bool.false_eq_true]
      · show L_X4_kindsBy_17 n m (nI i) (nI r) a3 (nI c) k (f + 1) _ (nI (2 * (s / 2))) = _
        rw [L_X4_kindsBy_17]
        simp (disch := omega) only [gp_rd, e40, gp_lt, show ¬ 2 * (s / 2) < s by omega, if_false]
    have n5 : ¬ ((5 : Int32) < nI c) := fun z => by
      have : 5 < c := (gp_lt (by decide) (by omega)).mp z
      omega
    rw [if_neg n5]
    refine Eq.trans (inner _ _) ?_
    cases c1 : gp_al (gp_fp v i c) (s / 2)
    · simp (disch := omega) only [gp_lit, Bool.false_eq_true, if_false, if_true, gp_or, Nat.or_zero, nI_add, gp_bs1, c1]
    · simp (disch := omega) only [gp_lit, gp_eq, Nat.one_ne_zero, if_false, if_true, gp_sh, gp_or, nI_add, gp_bs1, c1]
  · show L_X4_kindsBy_5 n m (nI i) (nI r) _ (f + 1) _ (nI 6) = _
    rw [L_X4_kindsBy_5]
    simp (disch := omega) only [gp_lit, gp_lt, show 5 < 6 by omega, if_true]
end GPKI
theorem op_kinds {n : Nat} (hn : 5000 ≤ n) {m : gn_M} (h : gp_rel m) (a b : Int32) : ∃ r m1 m2, f_X3_kinds n m a b = some (r, m1) ∧ f_X4_kinds n m1 a b = some (r, m2) ∧ gp_rel m2 := by
  have eM : ∀ m', f_X4_kinds n m' a b = gp_pM n m' a b (fun x => (f_X4_kindsBy n x a b).bind (fun x4 => some (x4, x))) := fun m' => rfl
  rcases gp_pairs hn h a b with ⟨r, m1, m2, r0, c1, c2, c3⟩ | ⟨c1, c2, g, i, r, s, v, hg, e7, e38, hi, rfl, hr, rfl, hs, hs2, e3, e40, hv⟩
  · refine ⟨r, m1, m2, ?_, by rw [eM]; exact c2 _, c3⟩
    unfold f_X3_kinds
    rw [c1, gp_bs]
    exact if_neg r0
  · have k1 := gp_kpC hn hg hi hr hs hs2 e3 (fun x hx => ⟨(hv x hx).1, (hv x hx).2.1⟩)
    have k2 := gp_kpM hn hg hi hr hs hs2 e40 (fun x hx => ⟨(hv x hx).1, (hv x hx).2.2⟩)
    refine ⟨nI (gp_bs1 (fun c => gp_al (gp_fp v i c) (s / 2)) 6), m, m, ?_, ?_, h⟩
    · unfold f_X3_kinds
      rw [c1, gp_bs]
      show (if (0 : Int32) = 0 then _ else _) = _
      rw [if_pos rfl, k1]
      rfl
    · rw [eM, c2 m (fun _ _ => rfl), k2]
      rfl
/-- the greatest part of the kinds that tell alike -/
def gp_pt (ks i t : Nat) (a : Nat) : Nat := gp_su (fun b => if ks.testBit a = true ∧ ks.testBit b = true ∧ gp_tl a i t = gp_tl b i t then 1 else 0) 6
def gp_gp (ks i t : Nat) : Nat := gp_mx (gp_pt ks i t) 6
theorem gp_pt_le {ks i t a : Nat} : gp_pt ks i t a ≤ 6 := by
  have := gp_su_le (f := fun b => if ks.testBit a = true ∧ ks.testBit b = true ∧ gp_tl a i t = gp_tl b i t then 1 else 0) (b := 1) (n := 6) (fun x _ => by split <;> omega)
  exact this
theorem gp_gpm_le {ks i t : Nat} (k : Nat) : gp_mx (gp_pt ks i t) k ≤ 6 := by
  rcases gp_mx_is (f := gp_pt ks i t) (n := k) with q | ⟨j, -, q⟩
  · omega
  · rw [q]; exact gp_pt_le
theorem gp_su1_le {P : Nat → Prop} [DecidablePred P] (k : Nat) : gp_su (fun b => if P b then 1 else 0) k ≤ k := by
  have := gp_su_le (f := fun b => if P b then 1 else 0) (b := 1) (n := k) (fun x _ => by split <;> omega)
  omega
section GPTE
variable {g i ks t : Nat}
theorem gp_tl_lt2 {a : Nat} (hg : g ≤ 7) (hi : i < g) (ht : t < 2 ^ g) : gp_tl a i t < 128 := by
  have := gp_tl_lt (c := a) (i := i) ht hi
  have := gp_p7 hg
  omega
theorem gp_gpC {n : Nat} (hn : 5000 ≤ n) (hg : g ≤ 7) (hi : i < g) (ht : t < 2 ^ g) (hk : ks < 64) : f_X3_greatestPart n (nI ks) (nI i) (nI t) = some (nI (gp_gp ks i t)) := by
  have h7 := gp_p7 hg
  unfold f_X3_greatestPart gp_gp
  refine gp_lp0 (Lf := fun f a (acc : Int32) => L_X3_greatestPart_5 n (nI ks) (nI i) (nI t) (fun e => some e) f acc (nI a)) (N := 6) (A := fun a => nI (gp_mx (gp_pt ks i t) a)) (fun f a ha => ?_) (fun f => ?_) (by omega)
  · show L_X3_greatestPart_5 n (nI ks) (nI i) (nI t) _ (f + 1) _ (nI a) = _
    rw [L_X3_greatestPart_5]
    have inner : ∀ (a3 : Int32) (k : Int32 → Option Int32), L_X3_greatestPart_18 n (nI ks) (nI i) (nI t) a3 (nI a) k n (nI 0) (nI 0) = k (nI (gp_pt ks i t a)) := by
      intro a3 k
      refine gp_lp0 (Lf := fun f b (acc : Int32) => L_X3_greatestPart_18 n (nI ks) (nI i) (nI t) a3 (nI a) k f acc (nI b)) (N := 6) (A := fun b => nI (gp_su (fun b => if ks.testBit a = true ∧ ks.testBit b = true ∧ gp_tl a i t = gp_tl b i t then 1 else 0) b)) (fun f b hb => ?_) (fun f => ?_) (by omega)
      · show L_X3_greatestPart_18 n (nI ks) (nI i) (nI t) a3 (nI a) k (f + 1) _ (nI b) = _
        rw [L_X3_greatestPart_18]
        have t1 := gp_tA (c := a) (i := i) (s := t) ha (by omega)
        have t2 := gp_tA (c := b) (i := i) (s := t) hb (by omega)
        have l1 := gp_tl_lt2 (a := a) hg hi ht
        have l2 := gp_tl_lt2 (a := b) hg hi ht
        unfold gn_jn
        by_cases c1 : ks.testBit a = true
        · by_cases c2 : ks.testBit b = true
          · by_cases c3 : gp_tl a i t = gp_tl b i t
            · simp (disch := omega) only [gp_lit, gp_lt, hb, if_true, gp_isIn, c1, c2, gp_bs, gp_eq, Nat.one_ne_zero, if_false, t1, t2, c3, nI_add, gp_su, and_self]
            · simp (disch := omega) only [gp_lit, gp_lt, hb, if_true, gp_isIn, c1, c2, gp_bs, gp_eq, Nat.one_ne_zero, if_false, t1, t2, c3, nI_add, gp_su, and_false, Nat.add_zero]
          · simp (disch := omega) only [gp_lit, gp_lt, hb, if_true, gp_isIn, c1, c2, gp_bs, gp_eq, Nat.one_ne_zero, if_false, nI_add, gp_su, false_and, and_false, Nat.add_zero, Bool.false_eq_true]
        · simp (disch := omega) only [gp_lit, gp_lt, hb, if_true, gp_isIn, c1, gp_bs, if_false, nI_add, gp_su, false_and, Nat.add_zero, Bool.false_eq_true]
      · show L_X3_greatestPart_18 n (nI ks) (nI i) (nI t) a3 (nI a) k (f + 1) _ (nI 6) = _
        rw [L_X3_greatestPart_18]
        simp (disch := omega) only [gp_lit, gp_lt, Nat.lt_irrefl, if_false]
        rfl
    have n6 : nI a < (6 : Int32) := (gp_lt (by omega) (by decide)).mpr ha
    rw [if_pos n6]
    refine Eq.trans (inner _ _) ?_
    have m1 := gp_gpm_le (ks := ks) (i := i) (t := t) a
    have m2 := gp_pt_le (ks := ks) (i := i) (t := t) (a := a)
    simp (disch := omega) only [gp_lit, gp_lt, nI_add, gp_mx]
    split <;> rfl
  · show L_X3_greatestPart_5 n (nI ks) (nI i) (nI t) _ (f + 1) _ (nI 6) = _
    rw [L_X3_greatestPart_5]
    simp (disch := omega) only [gp_lit, gp_lt, Nat.lt_irrefl, if_false]
theorem gp_gpM {n : Nat} (hn : 5000 ≤ n) {m : gn_M} (hg : g ≤ 7) (hi : i < g) (ht : t < 2 ^ g) (hk : ks < 64) (a5 a6 : Int32) (kk : Int32 → Option (Int32 × gn_M)) : L_X4_test_70 n m (nI i) (nI ks) a5 a6 (nI t) kk n (nI 0) (nI 0) = kk (nI (gp_gp ks i t)) := by
  have h7 := gp_p7 hg
  unfold gp_gp
  refine gp_lp0 (Lf := fun f a (acc : Int32) => L_X4_test_70 n m (nI i) (nI ks) a5 a6 (nI t) kk f acc (nI a)) (N := 6) (A := fun a => nI (gp_mx (gp_pt ks i t) a)) (fun f a ha => ?_) (fun f => ?_) (by omega)
  · show L_X4_test_70 n m (nI i) (nI ks) a5 a6 (nI t) kk (f + 1) _ (nI a) = _
    rw [L_X4_test_70]
    have inner : ∀ (a8 : Int32) (k : Int32 → Option (Int32 × gn_M)), L_X4_test_82 n m (nI i) (nI ks) a5 a6 (nI t) a8 (nI a) k n (nI 0) (nI 0) = k (nI (gp_pt ks i t a)) := by
      intro a8 k
      refine gp_lp0 (Lf := fun f b (acc : Int32) => L_X4_test_82 n m (nI i) (nI ks) a5 a6 (nI t) a8 (nI a) k f acc (nI b)) (N := 6) (A := fun b => nI (gp_su (fun b => if ks.testBit a = true ∧ ks.testBit b = true ∧ gp_tl a i t = gp_tl b i t then 1 else 0) b)) (fun f b hb => ?_) (fun f => ?_) (by omega)
      · show L_X4_test_82 n m (nI i) (nI ks) a5 a6 (nI t) a8 (nI a) k (f + 1) _ (nI b) = _
        rw [L_X4_test_82]
        have t1 := gp_tB (c := a) (i := i) (s := t) ha (by omega)
        have t2 := gp_tB (c := b) (i := i) (s := t) hb (by omega)
        have l1 := gp_tl_lt2 (a := a) hg hi ht
        have l2 := gp_tl_lt2 (a := b) hg hi ht
        by_cases c1 : ks.testBit a = true
        · by_cases c2 : ks.testBit b = true
          · by_cases c3 : gp_tl a i t = gp_tl b i t
            · simp (disch := omega) only [gp_lit, gp_lt, show ¬ 5 < b by omega, if_true, gp_has, c1, c2, gp_bs, gp_eq, Nat.one_ne_zero, if_false, t1, t2, c3, nI_add, gp_su, and_self]
            · simp (disch := omega) only [gp_lit, gp_lt, show ¬ 5 < b by omega, if_true, gp_has, c1, c2, gp_bs, gp_eq, Nat.one_ne_zero, if_false, t1, t2, c3, nI_add, gp_su, and_false, Nat.add_zero]
          · simp (disch := omega) only [gp_lit, gp_lt, show ¬ 5 < b by omega, if_true, gp_has, c1, c2, gp_bs, gp_eq, Nat.one_ne_zero, if_false, nI_add, gp_su, false_and, and_false, Nat.add_zero, Bool.false_eq_true]
        · simp (disch := omega) only [gp_lit, gp_lt, show ¬ 5 < b by omega, if_true, gp_has, c1, gp_bs, if_false, nI_add, gp_su, false_and, Nat.add_zero, Bool.false_eq_true]
      · show L_X4_test_82 n m (nI i) (nI ks) a5 a6 (nI t) a8 (nI a) k (f + 1) _ (nI 6) = _
        rw [L_X4_test_82]
        simp (disch := omega) only [gp_lit, gp_lt, show 5 < 6 by omega, if_true]
        rfl
    have n5 : ¬ ((5 : Int32) < nI a) := fun z => by
      have : 5 < a := (gp_lt (by decide) (by omega)).mp z
      omega
    rw [if_neg n5]
    refine Eq.trans (inner _ _) ?_
    have m1 := gp_gpm_le (ks := ks) (i := i) (t := t) a
    have m2 := gp_pt_le (ks := ks) (i := i) (t := t) (a := a)
    simp (disch := omega) only [gp_lit, gp_lt, nI_add, gp_mx]
    split <;> rfl
  · show L_X4_test_70 n m (nI i) (nI ks) a5 a6 (nI t) kk (f + 1) _ (nI 6) = _
    rw [L_X4_test_70]
    simp (disch := omega) only [gp_lit, gp_lt, show 5 < 6 by omega, if_true]
end GPTE
/-- the first set by which the greatest part is least -/
def gp_tf (ks i : Nat) (x0 : Int32) : Nat → Int32 × Int32
  | 0 => (x0, nI 7)
  | t + 1 => if nI (gp_gp ks i t) < (gp_tf ks i x0 t).2 then (nI t, nI (gp_gp ks i t)) else gp_tf ks i x0 t
theorem gp_tf_1 {ks i : Nat} {x0 : Int32} : gp_tf ks i x0 1 = (nI 0, nI (gp_gp ks i 0)) := by
  rw [gp_tf, gp_tf, if_pos]
  have := gp_gpm_le (ks := ks) (i := i) (t := 0) 6
  exact (gp_lt (by unfold gp_gp; omega) (by decide)).mpr (by unfold gp_gp; omega)
theorem gp_tf_eq {ks i : Nat} {x0 x1 : Int32} : ∀ t, gp_tf ks i x0 (t + 1) = gp_tf ks i x1 (t + 1)
  | 0 => by rw [gp_tf_1, gp_tf_1]
  | t + 1 => by rw [gp_tf, gp_tf_eq (x1 := x1) t, ← gp_tf]
theorem gp_tf_is {ks i : Nat} {x0 : Int32} : ∀ t, ∃ x, x ≤ t ∧ (gp_tf ks i x0 (t + 1)).1 = nI x
  | 0 => ⟨0, by omega, by rw [gp_tf_1]⟩
  | t + 1 => by
    rw [gp_tf]
    split
    · exact ⟨t + 1, by omega, rfl⟩
    · obtain ⟨x, h1, h2⟩ := gp_tf_is (ks := ks) (i := i) (x0 := x0) t
      exact ⟨x, by omega, h2⟩
theorem op_test {n : Nat} (hn : 5000 ≤ n) {m : gn_M} (h : gp_rel m) (a b : Int32) : ∃ r m1 m2, f_X3_test n m a b = some (r, m1) ∧ f_X4_test n m1 a b = some (r, m2) ∧ gp_rel m2 := by
  have eM : ∀ m', f_X4_test n m' a b = gp_pM n m' a b (fun x => (f_X4_kindsBy n x a b).bind (fun x4 => L_X4_test_48 n x a x4 (fun (e12 : Int32) (e13 : Int32) => (if e12 = (-9 : Int32) then some (e12, x) else (f_X4_told x e13).bind (fun x14 => some (e12, x14.2)))) n (-9 : Int32) (7 : Int32) (0 : Int32))) := fun m' => rfl
  rcases gp_pairs hn h a b with ⟨r, m1, m2, r0, c1, c2, c3⟩ | ⟨c1, c2, g, i, r, s, v, hg, e7, e38, hi, rfl, hr, rfl, hs, hs2, e3, e40, hv⟩
  · refine ⟨r, m1, m2, ?_, by rw [eM]; exact c2 _, c3⟩
    unfold f_X3_test
    rw [c1, gp_bs]
    exact if_neg r0
  · have h7 := gp_p7 hg
    have hpos := Nat.two_pow_pos g
    have k1 := gp_kpC hn hg hi hr hs hs2 e3 (fun x hx => ⟨(hv x hx).1, (hv x hx).2.1⟩)
    have k2 := gp_kpM hn hg hi hr hs hs2 e40 (fun x hx => ⟨(hv x hx).1, (hv x hx).2.2⟩)
    obtain ⟨ks, hks⟩ : ∃ ks, ks = gp_bs1 (fun c => gp_al (gp_fp v i c) (s / 2)) 6 := ⟨_, rfl⟩
    have hkl : ks < 64 := by rw [hks]; exact gp_bs1_lt _ 6
    rw [← hks] at k1 k2
    by_cases k0 : ks = 0
    · refine ⟨-9, m, m, ?_, ?_, h⟩
      · unfold f_X3_test
        rw [c1, gp_bs]
        show (if (0 : Int32) = 0 then _ else _) = _
        rw [if_pos rfl, k1, k0]
        rfl
      · rw [eM, c2 m (fun _ _ => rfl), k2, k0, gp_bs]
        obtain ⟨n', rfl⟩ : ∃ n', n = n' + 1 := ⟨n - 1, by omega⟩
        rw [L_X4_test_48]
        simp (disch := omega) only [e38, gp_lit, gp_sh, gp_lt, hpos, if_true]
    · obtain ⟨N, hN⟩ : ∃ N, 2 ^ g = N + 1 := ⟨2 ^ g - 1, by omega⟩
      obtain ⟨H, hH⟩ : ∃ H, H = gp_tf ks i (nI 0) (2 ^ g) := ⟨_, rfl⟩
      have hH' : gp_tf ks i (-nI 9) (2 ^ g) = H := by rw [hH, hN]; exact gp_tf_eq N
      have hne : ¬ H.1 = (-9 : Int32) := by
        obtain ⟨x, x1, x2⟩ := gp_tf_is (ks := ks) (i := i) (x0 := nI 0) N
        rw [hH, hN, x2]
        exact gp_9ne (by omega)
      have hgl : ∀ t, gp_gp ks i t ≤ 6 := fun t => gp_gpm_le 6
      have lpC : ∀ k : Int32 → Int32 → Option (Int32 × gn_M), L_X3_test_39 n m (nI i) (nI ks) k n (nI 0) (nI 7) (nI 0) = k H.1 H.2 := by
        intro k
        rw [hH]
        refine gp_lp0 (Lf := fun f t (acc : Int32 × Int32) => L_X3_test_39 n m (nI i) (nI ks) k f acc.1 acc.2 (nI t)) (N := 2 ^ g) (A := gp_tf ks i (nI 0)) (fun f t ht => ?_) (fun f => ?_) (by omega)
        · show L_X3_test_39 n m (nI i) (nI ks) k (f + 1) _ _ (nI t) = _
          rw [L_X3_test_39]
          have eg := gp_gpC hn hg hi ht hkl
          rw [gp_tf]
          by_cases c : nI (gp_gp ks i t) < (gp_tf ks i (nI 0) t).2
          · simp (disch := omega) only [e7, gp_lit, gp_sh, gp_lt, ht, if_true, eg, gp_bs, if_pos c, nI_add]
          · simp (disch := omega) only [e7, gp_lit, gp_sh, gp_lt, ht, if_true, eg, gp_bs, if_neg c, nI_add]
        · show L_X3_test_39 n m (nI i) (nI ks) k (f + 1) _ _ (nI (2 ^ g)) = _
          rw [L_X3_test_39]
          simp (disch := omega) only [e7, gp_lit, gp_sh, gp_lt, Nat.lt_irrefl, if_false]
      have lpM : ∀ m1 : gn_M, m1.1 38 10 = nI g → ∀ k : Int32 → Int32 → Option (Int32 × gn_M), L_X4_test_48 n m1 (nI i) (nI ks) k n (-nI 9) (nI 7) (nI 0) = k H.1 H.2 := by
        intro m1 e38 k
        rw [← hH']
        refine gp_lp0 (Lf := fun f t (acc : Int32 × Int32) => L_X4_test_48 n m1 (nI i) (nI ks) k f acc.1 acc.2 (nI t)) (N := 2 ^ g) (A := gp_tf ks i (-nI 9)) (fun f t ht => ?_) (fun f => ?_) (by omega)
        · show L_X4_test_48 n m1 (nI i) (nI ks) k (f + 1) _ _ (nI t) = _
          rw [L_X4_test_48]
          have eg := gp_gpM (m := m1) hn hg hi ht hkl (gp_tf ks i (-nI 9) t).1 (gp_tf ks i (-nI 9) t).2 (fun (e10 : Int32) => (if e10 < (gp_tf ks i (-nI 9) t).2 then L_X4_test_48 n m1 (nI i) (nI ks) k f (if e10 < (gp_tf ks i (-nI 9) t).2 then (nI t) else (gp_tf ks i (-nI 9) t).1) e10 (nI (t + 1)) else L_X4_test_48 n m1 (nI i) (nI ks) k f (if e10 < (gp_tf ks i (-nI 9) t).2 then (nI t) else (gp_tf ks i (-nI 9) t).1) (gp_tf ks i (-nI 9) t).2 (nI (t + 1))))
          simp (disch := omega) only [e38, gp_lit, gp_sh, gp_lt, ht, if_true, gp_eq, k0, if_false, nI_add]
          refine Eq.trans eg ?_
          rw [gp_tf]
          by_cases c : nI (gp_gp ks i t) < (gp_tf ks i (-nI 9) t).2
          · simp only [if_pos c]
          · simp only [if_neg c]
        · show L_X4_test_48 n m1 (nI i) (nI ks) k (f + 1) _ _ (nI (2 ^ g)) = _
          rw [L_X4_test_48]
          simp (disch := omega) only [e38, gp_lit, gp_sh, gp_lt, Nat.lt_irrefl, if_false]
      obtain ⟨m1, hm1⟩ : ∃ m1, m1 = gn_up m 0 10 H.2 := ⟨_, rfl⟩
      have fm1 : ∀ c, c ≠ 0 → m1.1 c = m.1 c := fun c hc => by rw [hm1, gp_une hc]
      have k2' := gp_kpM (m := m1) (v := v) hn hg hi hr hs hs2 (by rw [fm1 40 (by omega)]; exact e40) (fun x hx => ⟨(hv x hx).1, by rw [fm1 41 (by omega)]; exact (hv x hx).2.2⟩)
      rw [← hks] at k2'
      have e38' : m1.1 38 10 = nI g := by rw [fm1 38 (by omega)]; exact e38
      refine ⟨H.1, m1, gn_up m1 38 2 H.2, ?_, ?_, by rw [hm1]; exact gp_rel_told h H.2⟩
      · unfold f_X3_test
        rw [c1, gp_bs]
        show (if (0 : Int32) = 0 then _ else _) = _
        rw [if_pos rfl, k1, gp_bs]
        have nk : ¬ nI ks = (0 : Int32) := fun z => k0 ((gp_eq (by omega) (by decide)).mp z)
        rw [if_neg nk, hm1]
        exact lpC _
      · rw [eM, c2 m1 fm1, k2', gp_bs]
        refine Eq.trans (lpM m1 e38' _) ?_
        rw [if_neg hne]
        rfl
