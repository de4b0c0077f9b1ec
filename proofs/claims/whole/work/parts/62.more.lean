/-! PURE: the reference's table of how many more -/
section GPM
variable {m m' : gn_M} {g d : Nat} {K Wt T : Nat → Nat} {G l S : Nat} {nm : Nat → Nat} {L : Nat}
def gp_s53 (m : gn_M) (g : Nat) (A : Nat → Nat → Bool) (lo : Nat) : Prop := ∀ t, lo ≤ t → t < 2 ^ g → ∀ p, p ≤ 7 → m.1 53 (8 * t + p) = nI (gp_E g A (gp_df (2 ^ g - 1) t) p)
theorem gp_tm32 {n : Nat} (hn : 5000 ≤ n) (hM : gp_cM m g d K Wt T G l S) (o : gp_ok g d K Wt T G l S) (hN : gp_nM m g nm) (hL : L < 2 ^ g) {t p : Nat} (ht : t < 2 ^ g) (hp : p ≤ 7) (h53 : gp_s53 m g (gp_A L l nm) (t + 1)) (k : Int32 → Option gn_M) : L_X4_tellMore_32 n m (nI L) (nI t) (nI p) k n (nI 0) (nI 0) = k (nI (gp_E g (gp_A L l nm) (gp_df (2 ^ g - 1) t) p)) := by
  have hg := o.g7
  have h7 := gp_p7 hg
  have hpos := Nat.two_pow_pos g
  obtain ⟨A, hA⟩ : ∃ A, A = gp_A L l nm := ⟨_, rfl⟩
  rw [← hA] at h53 ⊢
  obtain ⟨c, hc⟩ : ∃ c, c = gp_df (2 ^ g - 1) t := ⟨_, rfl⟩
  have hcl : c < 2 ^ g := by rw [hc]; exact gp_df_lt (by omega)
  rw [← hc, gp_ES]
  have hE : ∀ j, gp_E g A (gp_df c (2 ^ j)) j ≤ 8 := fun j => Nat.le_trans (gp_E_le hg (gp_df_lt hcl)) (gp_po_le _)
  have hm : ∀ i, gp_mx (fun j => if c.testBit j = true then (if A p j then 1 + gp_E g A (gp_df c (2 ^ j)) j else 0) else 0) i ≤ 9 := by
    intro i
    rcases gp_mx_is (f := fun j => if c.testBit j = true then (if A p j then 1 + gp_E g A (gp_df c (2 ^ j)) j else 0) else 0) (n := i) with q | ⟨j, -, q⟩
    · omega
    · rw [q]
      have := hE j
      split
      · split <;> omega
      · omega
  refine gp_lp0 (Lf := fun f i (acc : Int32) => L_X4_tellMore_32 n m (nI L) (nI t) (nI p) k f acc (nI i)) (N := g) (A := fun i => nI (gp_mx (fun j => if c.testBit j = true then (if A p j then 1 + gp_E g A (gp_df c (2 ^ j)) j else 0) else 0) i)) (fun f i hi => ?_) (fun f => ?_) (by omega)
  · show L_X4_tellMore_32 n m (nI L) (nI t) (nI p) k (f + 1) _ (nI i) = _
    rw [L_X4_tellMore_32]
    have hmg := gp_mgL hM o hN (p := p) (j := i) hp hi
    have hct := gp_c_tb (g := g) (t := t) hi
    rw [← hc] at hct
    have hmi := hm i
    have hEi := hE i
    have hAi : A p i = (L.testBit i && gp_mg l nm p i) := by rw [hA]; rfl
    by_cases c1 : L.testBit i = true
    · by_cases c2 : t.testBit i = true
      · rw [c2] at hct
        simp (disch := omega) only [hM.1.1, gp_lit, gp_lt, hi, if_true, if_false, gp_has, c1, c2, gp_bs, gp_eq, Nat.one_ne_zero, nI_add, gp_mx, hct, Bool.not_true, Bool.false_eq_true, Nat.not_lt_zero]
      · have c2' : t.testBit i = false := by simpa using c2
        rw [c2'] at hct
        by_cases c3 : gp_mg l nm p i = true
        · rw [c1, c3] at hAi
          obtain ⟨b1, b2⟩ := gp_addb c2'
          have hor : t ||| 2 ^ i < 2 ^ g := gp_or_lt ht (gp_2_lt hi)
          have hgt : t < t ||| 2 ^ i := by
            have := gp_rm_less b1
            rw [b2] at this
            exact this
          have e53 := h53 (t ||| 2 ^ i) (by omega) hor i (by omega)
          rw [gp_c_or, ← hc] at e53
          simp (disch := omega) only [hM.1.1, gp_lit, gp_lt, hi, if_true, if_false, gp_has, c1, c2', gp_bs, gp_eq, Nat.one_ne_zero, nI_add, gp_mx, hct, hmg, c3, hAi, gp_sh, gp_or, pk_mul, gp_rd, e53, Bool.not_false, Bool.false_eq_true, Bool.and_self]
          split <;> rfl
        · have c3' : gp_mg l nm p i = false := by simpa using c3
          rw [c1, c3'] at hAi
          simp (disch := omega) only [hM.1.1, gp_lit, gp_lt, hi, if_true, if_false, gp_has, c1, c2', gp_bs, gp_eq, Nat.one_ne_zero, nI_add, gp_mx, hct, hmg, c3', hAi, Bool.not_false, Bool.and_false, Bool.false_eq_true, Nat.not_lt_zero]
    · have c1' : L.testBit i = false := by simpa using c1
      rw [c1'] at hAi
      simp (disch := omega) only [hM.1.1, gp_lit, gp_lt, hi, if_true, if_false, gp_has, c1', gp_bs, nI_add, gp_mx, hAi, Bool.false_and, Bool.false_eq_true, ite_self, Nat.not_lt_zero]
  · show L_X4_tellMore_32 n m (nI L) (nI t) (nI p) k (f + 1) _ (nI g) = _
    rw [L_X4_tellMore_32]
    simp (disch := omega) only [hM.1.1, gp_lt, Nat.lt_irrefl, if_false]
theorem gp_tm20 {n : Nat} (hn : 5000 ≤ n) (hM : gp_cM m g d K Wt T G l S) (o : gp_ok g d K Wt T G l S) (hN : gp_nM m g nm) (hL : L < 2 ^ g) {t : Nat} (ht : t < 2 ^ g) (h53 : gp_s53 m g (gp_A L l nm) (t + 1)) (k : gn_M → Option gn_M) : ∃ m', (gp_f1 53 m m' ∧ gp_s53 m' g (gp_A L l nm) t) ∧ L_X4_tellMore_20 n (nI L) (nI t) k n (nI 0) m = k m' := by
  have hg := o.g7
  have h7 := gp_p7 hg
  obtain ⟨A, hA⟩ : ∃ A, A = gp_A L l nm := ⟨_, rfl⟩
  rw [← hA] at h53 ⊢
  have key := gp_li (Lf := fun f p (x : gn_M) => L_X4_tellMore_20 n (nI L) (nI t) k f (nI p) x) (N := 8) (I := fun p x => (gp_f1 53 m x ∧ gp_s53 x g A (t + 1)) ∧ (∀ p', p' < p → x.1 53 (8 * t + p') = nI (gp_E g A (gp_df (2 ^ g - 1) t) p'))) (kk := fun x => k x) (fun f p m' hp hI => ?_) (fun f x hI => ?_) 8 0 n m (by omega) (by omega) ⟨⟨gp_f1.rfl', h53⟩, fun p' hp' => by omega⟩
  · obtain ⟨m', ⟨⟨i1, i2⟩, i3⟩, e⟩ := key
    refine ⟨m', ⟨i1, fun t' h1 h2 p hp => ?_⟩, e⟩
    by_cases q : t' = t
    · rw [q]
      exact i3 p (by omega)
    · exact i2 t' (by omega) h2 p hp
  · obtain ⟨⟨i1, i2⟩, i3⟩ := hI
    have hM' := (i1.sf (by omega)).cM hM
    have hN' : gp_nM m' g nm := by unfold gp_nM; rw [i1.1 51 (by omega)]; exact hN
    have e57 := gp_tm32 hn hM' o hN' hL ht (show p ≤ 7 by omega) (hA ▸ i2) (fun (e6 : Int32) => gn_wr m' 53 1024 (((8 : Int32) * (nI t)) + (nI p)) e6 (fun m7 => L_X4_tellMore_20 n (nI L) (nI t) k f ((nI p) + (1 : Int32)) m7))
    rw [← hA] at e57
    refine ⟨gn_up m' 53 (8 * t + p) (nI (gp_E g A (gp_df (2 ^ g - 1) t) p)), ⟨⟨i1.up, fun t' h1 h2 p' hp' => ?_⟩, fun p' hp' => ?_⟩, ?_⟩
    · rw [gp_u, if_neg (by omega)]
      exact i2 t' h1 h2 p' hp'
    · rw [gp_u]
      by_cases q : p' = p
      · rw [if_pos ⟨rfl, by omega⟩, q]
      · rw [if_neg (by omega)]
        exact i3 p' (by omega)
    · show L_X4_tellMore_20 n (nI L) (nI t) k (f + 1) (nI p) m' = _
      rw [L_X4_tellMore_20]
      have n7 : ¬ ((7 : Int32) < nI p) := fun z => by
        have : 7 < p := (gp_lt (by decide) (by omega)).mp z
        omega
      rw [if_neg n7]
      refine Eq.trans e57 ?_
      simp (disch := omega) only [gp_lit, pk_mul, nI_add, gp_wr]
  · show L_X4_tellMore_20 n (nI L) (nI t) k (f + 1) (nI 8) _ = _
    rw [L_X4_tellMore_20, if_pos (by decide)]
theorem gp_tmL {n : Nat} (hn : 5000 ≤ n) (hM : gp_cM m g d K Wt T G l S) (o : gp_ok g d K Wt T G l S) (hN : gp_nM m g nm) : ∃ m', f_X4_tellMore n m = some m' ∧ gp_f1 53 m m' ∧ gp_s53 m' g (gp_A (gp_lf g G) l nm) 0 := by
  have hg := o.g7
  have h7 := gp_p7 hg
  have hpos := Nat.two_pow_pos g
  obtain ⟨L, eL⟩ : ∃ L, L = gp_lf g G := ⟨_, rfl⟩
  have hL : L < 2 ^ g := by rw [eL]; exact gp_lf_lt g G
  have el := gp_leftM hM o
  rw [← eL] at el ⊢
  obtain ⟨A, hA⟩ : ∃ A, A = gp_A L l nm := ⟨_, rfl⟩
  rw [← hA]
  have key := gp_li (Lf := fun f q (x : gn_M) => L_X4_tellMore_14 n (nI L) (fun m9 => some m9) f (gp_dn (2 ^ g) q) x) (N := 2 ^ g) (I := fun q x => gp_f1 53 m x ∧ gp_s53 x g A (2 ^ g - q)) (kk := fun x => some x) (fun f q m' hq hI => ?_) (fun f x hI => ?_) (2 ^ g) 0 n m (by omega) (by omega) ⟨gp_f1.rfl', fun t h1 h2 => by omega⟩
  · obtain ⟨m', ⟨i1, i2⟩, e⟩ := key
    rw [Nat.sub_self] at i2
    refine ⟨m', ?_, i1, i2⟩
    unfold f_X4_tellMore
    rw [el, gp_bs, hM.1.1, show (1 : Int32) <<< (nI g &&& 31) = nI (2 ^ g) from gp_sh (by omega)]
    exact e
  · obtain ⟨i1, i2⟩ := hI
    obtain ⟨t, ht⟩ : ∃ t, t = 2 ^ g - q - 1 := ⟨_, rfl⟩
    have hM' := (i1.sf (by omega)).cM hM
    have hN' : gp_nM m' g nm := by unfold gp_nM; rw [i1.1 51 (by omega)]; exact hN
    rw [show 2 ^ g - q = t + 1 by omega] at i2
    obtain ⟨m'', ⟨j1, j2⟩, j3⟩ := gp_tm20 hn hM' o hN' hL (t := t) (by omega) (hA ▸ i2) (fun (m13 : gn_M) => L_X4_tellMore_14 n (nI L) (fun m9 => some m9) f (gp_dn (2 ^ g) (q + 1)) m13)
    rw [← hA] at j2
    refine ⟨m'', ⟨i1.tr j1, ?_⟩, ?_⟩
    · rw [show 2 ^ g - (q + 1) = t by omega]
      exact j2
    · show L_X4_tellMore_14 n (nI L) _ (f + 1) (gp_dn (2 ^ g) q) m' = _
      rw [L_X4_tellMore_14]
      have hdn : gp_dn (2 ^ g) q = nI t := by rw [gp_dn_lt hq, ht]
      have hds := gp_dn_s (N := 2 ^ g) (q := q) hq
      rw [hdn] at hds ⊢
      simp (disch := omega) only [gp_lit, gp_lt, Nat.not_lt_zero, if_false, hds]
      exact j3
  · show L_X4_tellMore_14 n (nI L) _ (f + 1) (gp_dn (2 ^ g) (2 ^ g)) _ = _
    rw [L_X4_tellMore_14, gp_lit 0, if_pos gp_dn_e]
end GPM
