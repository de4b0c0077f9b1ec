/-! PURE: chances: weights, common divisors -/
theorem gp_cmp0 {a : Nat} (ha : a < 2 ^ 63) : lg_cmp (lN a) 0 = if a = 0 then nI 0 else nI 1 := by
  unfold lg_cmp
  have e1 : (lN a > 0) ↔ 0 < a := pk_lLT (a := 0) (b := a) (by decide) ha
  have e2 : (lN a = 0) ↔ a = 0 := pk_lEQ (a := a) (b := 0) ha (by decide)
  by_cases h : a = 0
  · rw [if_neg (fun z => by have := e1.mp z; omega), if_pos (e2.mpr h), if_pos h]
    rfl
  · rw [if_pos (e1.mpr (by omega)), if_neg h]
    rfl
theorem gp_dvL {α : Type} {a : Nat} (ha : a < 2 ^ 63) (h0 : 0 < a) {K : Option α} : gn_dvL (lN a) K = K := by
  unfold gn_dvL
  rw [if_neg]
  intro z
  have := (pk_lEQ (a := a) (b := 0) ha (by decide)).mp z
  omega
/-- Euclid: twice as many steps as figures are enough -/
theorem gp_eu {R : Type} {F : Nat → Nat → Nat → R} {K : Nat → R} (h0 : ∀ f a, f < 100 → a < 2 ^ 63 → F (f + 1) a 0 = K a) (h1 : ∀ f a b, f < 100 → 0 < b → a < 2 ^ 63 → b < 2 ^ 63 → F (f + 1) a b = F f b (a % b)) : ∀ c a b f, b < 2 ^ c → a < 2 ^ 63 → b < 2 ^ 63 → 2 * c + 1 ≤ f → f ≤ 100 → F f a b = K (Nat.gcd a b) := by
  intro c
  induction c with
  | zero =>
    intro a b f hb ha hb2 hf hf2
    have : b = 0 := by
      have : (2 : Nat) ^ 0 = 1 := rfl
      omega
    subst this
    obtain ⟨f, rfl⟩ : ∃ f', f = f' + 1 := ⟨f - 1, by omega⟩
    rw [h0 f a (by omega) ha, Nat.gcd_zero_right]
  | succ c ih =>
    intro a b f hb ha hb2 hf hf2
    by_cases b0 : b = 0
    · subst b0
      obtain ⟨f, rfl⟩ : ∃ f', f = f' + 1 := ⟨f - 1, by omega⟩
      rw [h0 f a (by omega) ha, Nat.gcd_zero_right]
    · obtain ⟨f, rfl⟩ : ∃ f', f = f' + 2 := ⟨f - 2, by omega⟩
      have hr : a % b < b := Nat.mod_lt a (by omega)
      have eg : Nat.gcd a b = Nat.gcd b (a % b) := by rw [Nat.gcd_comm a b, Nat.gcd_rec b a, Nat.gcd_comm]
      rw [show f + 2 = (f + 1) + 1 from rfl, h1 (f + 1) a b (by omega) (by omega) ha hb2, eg]
      by_cases r0 : a % b = 0
      · rw [r0, h0 f b (by omega) hb2, Nat.gcd_zero_right]
      · obtain ⟨r, hrr⟩ : ∃ r, r = a % b := ⟨_, rfl⟩
        rw [← hrr] at hr r0 ⊢
        have hq : b % r < r := Nat.mod_lt b (by omega)
        have hd := Nat.div_add_mod b r
        have hd1 : 1 ≤ b / r := (Nat.one_le_div_iff (by omega)).mpr (by omega)
        have hm : r * 1 ≤ r * (b / r) := Nat.mul_le_mul_left r hd1
        have h2 : b % r < 2 ^ c := by
          rw [Nat.pow_succ] at hb
          omega
        have eg2 : Nat.gcd b r = Nat.gcd r (b % r) := by rw [Nat.gcd_comm b r, Nat.gcd_rec r b, Nat.gcd_comm]
        rw [h1 f b r (by omega) (by omega) hb2 (by omega), eg2]
        exact ih r (b % r) f h2 (by omega) (by omega) (by omega) (by omega)
theorem gp_cdL {n : Nat} (hn : 5000 ≤ n) {a b : Nat} (ha : a < 2 ^ 63) (hb : b < 2 ^ 26) : f_X3_commonDivisor n (lN a) (lN b) = some (lN (Nat.gcd a b)) := by
  obtain ⟨M, hM⟩ : ∃ M, n = 100 + M := ⟨n - 100, by omega⟩
  unfold f_X3_commonDivisor
  have key := gp_eu (F := fun f a b => L_X3_commonDivisor_9 n (fun (e1 : Int64) => some e1) (f + M) (lN a) (lN b) (nI (100 - f))) (K := fun a => some (lN a)) (fun f a hf ha => ?_) (fun f a b hf h0 ha hb => ?_) 26 a b 100 hb ha (by omega) (by omega) (by omega)
  · rw [← hM] at key
    exact key
  · show L_X3_commonDivisor_9 n _ (f + 1 + M) (lN a) (lN 0) (nI (100 - (f + 1))) = _
    rw [show f + 1 + M = (f + M) + 1 by omega, L_X3_commonDivisor_9]
    have hc := gp_cmp0 (a := 0) (by decide)
    rw [if_pos rfl] at hc
    have l1 : nI (100 - (f + 1)) < (100 : Int32) := show nI (100 - (f + 1)) < nI 100 from (gp_lt (by omega) (by decide)).mpr (by omega)
    rw [if_pos l1, hc]
    rfl
  · show L_X3_commonDivisor_9 n _ (f + 1 + M) (lN a) (lN b) (nI (100 - (f + 1))) = L_X3_commonDivisor_9 n _ (f + M) (lN b) (lN (a % b)) (nI (100 - f))
    rw [show f + 1 + M = (f + M) + 1 by omega, L_X3_commonDivisor_9]
    have hc := gp_cmp0 hb
    rw [if_neg (by omega)] at hc
    have l1 : nI (100 - (f + 1)) < (100 : Int32) := show nI (100 - (f + 1)) < nI 100 from (gp_lt (by omega) (by decide)).mpr (by omega)
    have l2 : ¬ (nI 1 = (0 : Int32)) := by decide
    have l3 : nI (100 - (f + 1)) + (1 : Int32) = nI (100 - f) := by
      rw [show (1 : Int32) = nI 1 from rfl, nI_add, show 100 - (f + 1) + 1 = 100 - f by omega]
    rw [if_pos l1, hc, if_neg l2, gp_dvL hb h0, pk_lRem ha h0 hb, l3]
theorem gp_frL {n : Nat} (hn : 5000 ≤ n) {m : gn_M} {a b : Nat} (ha : a < 2 ^ 63) (hb : b < 2 ^ 26) (h0 : 0 < b) : f_X4_fraction n m (lN a) (lN b) = some ((1 : Int32), gn_upL (gn_upL m 38 3 (lN (a / Nat.gcd a b))) 38 4 (lN (b / Nat.gcd a b))) := by
  obtain ⟨M, hM⟩ : ∃ M, n = 100 + M := ⟨n - 100, by omega⟩
  have hg0 : 0 < Nat.gcd a b := Nat.gcd_pos_of_pos_right a h0
  have hgl : Nat.gcd a b ≤ b := Nat.gcd_le_right a h0
  unfold f_X4_fraction
  have key := gp_eu (F := fun f a' b' => L_X4_fraction_6 n m (lN a) (lN b) (fun (e1 : Int64) => gn_dvL e1 (gn_pfL m 38 3 (lN a / e1) (fun m2 => gn_dvL e1 (gn_pfL m2 38 4 (lN b / e1) (fun m3 => some ((1 : Int32), m3)))))) (f + M) (lN a') (lN b')) (K := fun a' => (fun (e1 : Int64) => gn_dvL e1 (gn_pfL m 38 3 (lN a / e1) (fun m2 => gn_dvL e1 (gn_pfL m2 38 4 (lN b / e1) (fun m3 => some ((1 : Int32), m3)))))) (lN a')) (fun f a' hf ha => ?_) (fun f a' b' hf h0 ha hb => ?_) 26 a b 100 hb ha (by omega) (by omega) (by omega)
  · rw [← hM] at key
    refine Eq.trans key ?_
    dsimp only
    rw [gp_dvL (by omega) hg0, gp_pfL, gp_dvL (by omega) hg0, gp_pfL, pk_lDiv ha hg0 (by omega), pk_lDiv (by omega) hg0 (by omega)]
  · show L_X4_fraction_6 n m _ _ _ (f + 1 + M) (lN a') (lN 0) = _
    rw [show f + 1 + M = (f + M) + 1 by omega, L_X4_fraction_6]
    have hc := gp_cmp0 (a := 0) (by decide)
    rw [if_pos rfl] at hc
    rw [hc]
    rfl
  · show L_X4_fraction_6 n m _ _ _ (f + 1 + M) (lN a') (lN b') = L_X4_fraction_6 n m _ _ _ (f + M) (lN b') (lN (a' % b'))
    rw [show f + 1 + M = (f + M) + 1 by omega, L_X4_fraction_6]
    have hc := gp_cmp0 hb
    rw [if_neg (by omega)] at hc
    have l2 : ¬ (nI 1 = (0 : Int32)) := by decide
    rw [hc, if_neg l2, gp_dvL hb h0, pk_lRem ha h0 hb]
theorem gp_pwL {n : Nat} (hn : 5000 ≤ n) {b e : Nat} (hb : b < 2147483648) (he : e ≤ 8) : f_X3_power n (nI b) (nI e) = some (lN (b ^ e)) := by
  unfold f_X3_power
  refine gp_lp0 (Lf := fun f i (acc : Int64) => L_X3_power_5 n (nI b) (nI e) (fun e => some e) f acc (nI i)) (N := e) (A := fun i => lN (b ^ i)) (fun f i hi => ?_) (fun f => ?_) (by omega)
  · show L_X3_power_5 n (nI b) (nI e) _ (f + 1) _ (nI i) = _
    rw [L_X3_power_5, nI_l (by omega), lN_mul, ← Nat.pow_succ]
    simp (disch := omega) only [gp_lt, hi, if_true, gp_lit, nI_add]
  · show L_X3_power_5 n (nI b) (nI e) _ (f + 1) _ (nI e) = _
    rw [L_X3_power_5]
    simp (disch := omega) only [gp_lt, Nat.lt_irrefl, if_false]
/-- by how many ways just these come -/
def gp_wgt (p L t : Nat) : Nat := (12 - p) ^ gp_po t * p ^ (gp_po L - gp_po t)
theorem gp_wgt_le {p L t : Nat} (hp : p ≤ 12) (hL : L < 128) (ht : gp_po t ≤ gp_po L) : gp_wgt p L t ≤ 12 ^ 7 := by
  unfold gp_wgt
  have h1 : (12 - p) ^ gp_po t ≤ 12 ^ gp_po t := Nat.pow_le_pow_left (by omega) _
  have h2 : p ^ (gp_po L - gp_po t) ≤ 12 ^ (gp_po L - gp_po t) := Nat.pow_le_pow_left hp _
  refine Nat.le_trans (Nat.mul_le_mul h1 h2) ?_
  rw [← Nat.pow_add, show gp_po t + (gp_po L - gp_po t) = gp_po L by omega]
  exact Nat.pow_le_pow_right (by decide) (gp_po_7 L hL)
section GPOD
variable {m m' : gn_M} {g d : Nat} {K Wt T : Nat → Nat} {G l S : Nat} {A : Nat → Nat → Bool} {L O : Nat} {af : Nat → Nat}
theorem gp_wtC {n : Nat} (hn : 5000 ≤ n) (h : gp_rC m g L O af) (hg : g ≤ 7) (hL : L < 2 ^ g) {t p : Nat} (ht : gp_sb t L) (hp : p ≤ 12) : f_X3_weightOf n m (nI t) (nI p) = some (lN (gp_wgt p L t)) := by
  have h7 := gp_p7 hg
  have htl := gp_sb_le ht
  have b1 := gp_bc t (by omega)
  have b2 := gp_bc L (by omega)
  have hpo := gp_sb_po (by omega) ht
  have l1 := gp_po_le t
  have l2 := gp_po_le L
  have p1 := gp_pwL hn (b := 12 - p) (e := gp_po t) (by omega) (by omega)
  have p2 := gp_pwL hn (b := p) (e := gp_po L - gp_po t) (by omega) (by omega)
  unfold f_X3_weightOf
  rw [b1, gp_bs, h.2.1, b2, gp_bs]
  rw [show (12 : Int32) - nI p = nI (12 - p) from pk_sub (a := 12) hp, p1, gp_bs, pk_sub hpo, p2, gp_bs, lN_mul]
  rfl
def gp_pd (f : Nat → Nat) : Nat → Nat
  | 0 => 1
  | n + 1 => gp_pd f n * f n
theorem gp_bs_self {t : Nat} (ht : t < 2 ^ g) : gp_bs1 (fun i => t.testBit i) g = t := by
  apply Nat.eq_of_testBit_eq
  intro i
  rw [gp_bs1_tb]
  by_cases h : i < g
  · simp [h]
  · cases hb : t.testBit i
    · simp
    · exact absurd (gp_tb_lt ht hb) h
theorem gp_po_ctt (hg : g ≤ 7) {t : Nat} (ht : t < 2 ^ g) : gp_po t = gp_ct (fun i => t.testBit i) g := by
  rw [← gp_po_bs _ _ (by omega), gp_bs_self ht]
theorem gp_pd_is {p t : Nat} (ht : gp_sb t L) : ∀ k, gp_pd (fun i => if L.testBit i = true then (if t.testBit i = true then 12 - p else p) else 1) k = (12 - p) ^ gp_ct (fun i => t.testBit i) k * p ^ gp_ct (fun i => L.testBit i && !t.testBit i) k
  | 0 => rfl
  | k + 1 => by
    rw [gp_pd, gp_pd_is ht k, gp_ct, gp_ct]
    have := ht k
    cases c1 : t.testBit k <;> cases c2 : L.testBit k
    · simp
    · simp [Nat.pow_succ, Nat.mul_assoc]
    · rw [c1, c2] at this
      exact absurd (this rfl) (by decide)
    · simp [Nat.pow_succ, Nat.mul_assoc, Nat.mul_comm]
theorem gp_ct_add {t : Nat} (ht : gp_sb t L) : ∀ k, gp_ct (fun i => L.testBit i) k = gp_ct (fun i => t.testBit i) k + gp_ct (fun i => L.testBit i && !t.testBit i) k
  | 0 => rfl
  | k + 1 => by
    rw [gp_ct, gp_ct, gp_ct, gp_ct_add ht k]
    have := ht k
    cases c1 : t.testBit k <;> cases c2 : L.testBit k
    · simp
    · simp; omega
    · rw [c1, c2] at this
      exact absurd (this rfl) (by decide)
    · simp; omega
theorem gp_wgt_pd (hg : g ≤ 7) (hL : L < 2 ^ g) {p t : Nat} (ht : gp_sb t L) : gp_pd (fun i => if L.testBit i = true then (if t.testBit i = true then 12 - p else p) else 1) g = gp_wgt p L t := by
  have htl := gp_sb_le ht
  rw [gp_pd_is ht, gp_wgt, gp_po_ctt hg (t := t) (by omega), gp_po_ctt hg hL, gp_ct_add ht g, Nat.add_sub_cancel_left]
theorem gp_wsM {n : Nat} (hn : 5000 ≤ n) (hM : gp_cM m g d K Wt T G l S) (o : gp_ok g d K Wt T G l S) (eL : L = gp_lf g G) {t p : Nat} (ht : t < 2 ^ g) (hp : p ≤ 12) : f_X4_waysOf n m (nI t) (nI p) = some (lN (if gp_df t L = 0 then gp_wgt p L t else 0)) := by
  have hg := o.g7
  have h7 := gp_p7 hg
  have hL : L < 2 ^ g := by rw [eL]; exact gp_lf_lt g G
  have el := gp_leftM hM o
  rw [← eL] at el
  have hdl := gp_df_le t L
  unfold f_X4_waysOf
  rw [el, gp_bs]
  have key : ∀ k : Int64 → Option Int64, L_X4_waysOf_11 n m (nI t) (nI p) (nI L) k n 1 0 = k (lN (gp_pd (fun i => if L.testBit i = true then (if t.testBit i = true then 12 - p else p) else 1) g)) := by
    intro k
    refine gp_lp0 (Lf := fun f i (acc : Int64) => L_X4_waysOf_11 n m (nI t) (nI p) (nI L) k f acc (nI i)) (N := g) (A := fun i => lN (gp_pd (fun i => if L.testBit i = true then (if t.testBit i = true then 12 - p else p) else 1) i)) (fun f i hi => ?_) (fun f => ?_) (by omega)
    · show L_X4_waysOf_11 n m (nI t) (nI p) (nI L) k (f + 1) _ (nI i) = _
      rw [L_X4_waysOf_11, nI_l (by omega), show (12 : Int64) = lN 12 from rfl, lN_sub hp, show (1 : Int64) = lN 1 from rfl, lN_mul, lN_mul, lN_mul]
      by_cases c1 : L.testBit i = true
      · by_cases c2 : t.testBit i = true
        · simp (disch := omega) only [hM.1.1, gp_lt, hi, if_true, gp_has, c1, c2, gp_bs, gp_lit, gp_eq, Nat.one_ne_zero, if_false, nI_add, gp_pd]
        · simp (disch := omega) only [hM.1.1, gp_lt, hi, if_true, gp_has, c1, c2, gp_bs, gp_lit, gp_eq, Nat.one_ne_zero, if_false, nI_add, gp_pd, Bool.false_eq_true]
      · simp (disch := omega) only [hM.1.1, gp_lt, hi, if_true, gp_has, c1, gp_bs, gp_lit, if_false, nI_add, gp_pd, Bool.false_eq_true]
    · show L_X4_waysOf_11 n m (nI t) (nI p) (nI L) k (f + 1) _ (nI g) = _
      rw [L_X4_waysOf_11]
      simp (disch := omega) only [hM.1.1, gp_lt, Nat.lt_irrefl, if_false]
  rw [key]
  by_cases c : gp_df t L = 0
  · rw [if_pos c, gp_wgt_pd hg hL (gp_df0.mp c)]
    simp (disch := omega) only [gp_lit, gp_nt, gp_eq, c, if_true]
  · rw [if_neg c]
    simp (disch := omega) only [gp_lit, gp_nt, gp_eq, c, if_false]
    rfl
theorem gp_awM {n : Nat} (hn : 5000 ≤ n) (hM : gp_cM m g d K Wt T G l S) (o : gp_ok g d K Wt T G l S) (eL : L = gp_lf g G) : f_X4_allWays n m = some (lN (12 ^ gp_po L)) := by
  have hg := o.g7
  have h7 := gp_p7 hg
  have hL : L < 2 ^ g := by rw [eL]; exact gp_lf_lt g G
  have el := gp_leftM hM o
  rw [← eL] at el
  have eb := gp_bits (n := n) (s := L) hn (by omega)
  have hpo := gp_po_le L
  unfold f_X4_allWays
  refine gp_lp0 (Lf := fun f i (acc : Int64) => L_X4_allWays_4 n m (fun e => some e) f acc (nI i)) (N := gp_po L) (A := fun i => lN (12 ^ i)) (fun f i hi => ?_) (fun f => ?_) (by omega)
  · show L_X4_allWays_4 n m _ (f + 1) _ (nI i) = _
    rw [L_X4_allWays_4, show (12 : Int64) = lN 12 from rfl, lN_mul, ← Nat.pow_succ]
    simp (disch := omega) only [el, eb, gp_bs, gp_lt, hi, if_true, gp_lit, nI_add]
  · show L_X4_allWays_4 n m _ (f + 1) _ (nI (gp_po L)) = _
    rw [L_X4_allWays_4]
    simp (disch := omega) only [el, eb, gp_bs, gp_lt, Nat.lt_irrefl, if_false]
theorem gp_12 {e : Nat} (h : e ≤ 7) : 12 ^ e < 2 ^ 26 ∧ 0 < 12 ^ e := ⟨Nat.lt_of_le_of_lt (Nat.pow_le_pow_right (by decide) h) (by decide), Nat.pow_pos (by decide)⟩
theorem gp_tpC {n : Nat} (hn : 5000 ≤ n) (h : gp_rC m g L O af) (hg : g ≤ 7) (hL : L < 2 ^ g) {s : Nat} (hs : s < 2 ^ 63) : f_X3_toldInParts n m (lN s) = some ((1 : Int32), gn_upL (gn_upL m 0 11 (lN (s / Nat.gcd s (12 ^ gp_po L)))) 0 12 (lN (12 ^ gp_po L / Nat.gcd s (12 ^ gp_po L)))) := by
  have h7 := gp_p7 hg
  have hpo := gp_po_7 L (by omega)
  have b2 := gp_bc L (by omega)
  have p1 := gp_pwL hn (b := 12) (e := gp_po L) (by omega) (by omega)
  obtain ⟨w1, w2⟩ := gp_12 hpo
  obtain ⟨w, hw⟩ : ∃ w, w = 12 ^ gp_po L := ⟨_, rfl⟩
  rw [← hw] at p1 w1 w2 ⊢
  have hg0 : 0 < Nat.gcd s w := Nat.gcd_pos_of_pos_right s w2
  have hgl : Nat.gcd s w ≤ w := Nat.gcd_le_right s w2
  have hc := gp_cmp0 (a := Nat.gcd s w) (by omega)
  rw [if_neg (by omega)] at hc
  unfold f_X3_toldInParts
  rw [h.2.1, b2, gp_bs, show (12 : Int32) = nI 12 from rfl, p1, gp_bs, gp_cdL hn hs w1, gp_bs, hc, if_pos (by decide), gp_dvL (by omega) hg0, gp_pfL, gp_dvL (by omega) hg0, gp_pfL, pk_lDiv hs hg0 (by omega), pk_lDiv (by omega) hg0 (by omega)]
end GPOD
