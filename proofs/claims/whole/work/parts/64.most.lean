/-! PURE: most: both write it -/
section GPRW
variable {m m' : gn_M} {g d : Nat} {K Wt T : Nat → Nat} {G l S : Nat} {nm : Nat → Nat} {A : Nat → Nat → Bool} {L O : Nat} {af : Nat → Nat}
/-- places of a row written from the start -/
def gp_wr_at (m m' : gn_M) (c o k : Nat) (f : Nat → Nat) : Prop := gp_f1 c m m' ∧ (∀ y, y < k → m'.1 c (o + y) = nI (f y)) ∧ ∀ y, (y < o ∨ o + k ≤ y) → m'.1 c y = m.1 c y
theorem gp_wr_at.up {c o k : Nat} {f : Nat → Nat} {x : Int32} (h : gp_wr_at m m' c o k f) (hx : x = nI (f k)) : gp_wr_at m (gn_up m' c (o + k) x) c o (k + 1) f := by
  refine ⟨h.1.up, fun y hy => ?_, fun y hy => ?_⟩
  · rw [gp_u]
    by_cases q : y = k
    · rw [if_pos ⟨rfl, by omega⟩, hx, q]
    · rw [if_neg (by omega)]
      exact h.2.1 y (by omega)
  · rw [gp_u, if_neg (by omega)]
    exact h.2.2 y (by omega)
theorem gp_wfL {n r : Nat} (hn : 5000 ≤ n) (hr : r < 6) (h : gp_rC m g L O af) (a : gp_rA g L O af A) (h34 : gp_s34 m g L A) : ∃ m', f_X1_writeFirstRow n m (10 + r) (nI (gp_E g A L 7)) = some m' ∧ gp_wr_at m m' (10 + r) 0 (gp_E g A L 7) (fun y => (gp_sq g A L (y + 1)).2) := by
  have hg := a.1
  have h7 := gp_p7 hg
  have hL := a.2.1
  obtain ⟨e, he⟩ : ∃ e, e = gp_E g A L 7 := ⟨_, rfl⟩
  have he8 : e ≤ 8 := by rw [he]; exact Nat.le_trans (gp_E_le hg hL) (gp_po_le _)
  rw [← he]
  have key := gp_li (Lf := fun f k (x : (Int32 × Int32) × gn_M) => L_X1_writeFirstRow_14 n (10 + r) (nI e) (fun m5 => some m5) f x.1.1 x.1.2 (nI k) x.2) (N := e) (I := fun k x => gp_wr_at m x.2 (10 + r) 0 k (fun y => (gp_sq g A L (y + 1)).2) ∧ x.1.1 = nI (gp_sq g A L k).1 ∧ x.1.2 = nI (if (gp_sq g A L k).2 = 7 then O else af (gp_sq g A L k).2)) (kk := fun x => some x.2) (fun f k x hk hI => ?_) (fun f x hI => ?_) e 0 n ((nI L, nI O), m) (by omega) (by omega) ⟨⟨gp_f1.rfl', fun y hy => by omega, fun y hy => rfl⟩, rfl, rfl⟩
  · obtain ⟨x, ⟨i1, -⟩, ee⟩ := key
    refine ⟨x.2, ?_, i1⟩
    unfold f_X1_writeFirstRow
    rw [h.2.1, h.2.2.1]
    exact ee
  · obtain ⟨⟨v3, v4⟩, m'⟩ := x
    obtain ⟨i1, i2, i3⟩ := hI
    dsimp only at i1 i2 i3
    obtain ⟨q1, q2, q3⟩ := gp_sq_ok (g := g) (A := A) (L := L) k (by omega)
    have hsq : gp_sq g A L (k + 1) = (gp_df (gp_sq g A L k).1 (2 ^ gp_ch g A (gp_sq g A L k)), gp_ch g A (gp_sq g A L k)) := rfl
    obtain ⟨s, hs⟩ : ∃ s, s = (gp_sq g A L k).1 := ⟨_, rfl⟩
    obtain ⟨p, hp⟩ : ∃ p, p = (gp_sq g A L k).2 := ⟨_, rfl⟩
    have hsp : gp_sq g A L k = (s, p) := by rw [hs, hp]
    rw [hsp] at hsq
    rw [← hs, ← hp] at q1
    rw [← hs] at q2 i2
    rw [← hp] at q3 i3
    dsimp only at hsq
    have hsl := gp_sb_le q2
    have hpos : 0 < gp_E g A s p := by omega
    obtain ⟨c1, c2, c3⟩ := gp_ch_ok hpos
    obtain ⟨d1, d2, d3⟩ := gp_cq_d c1
    obtain ⟨j, hj⟩ : ∃ j, j = gp_ch g A (s, p) := ⟨_, rfl⟩
    rw [← hj] at hsq c1 c2 c3 d1 d2 d3
    obtain ⟨B, hBd⟩ : ∃ B, B = (if p = 7 then O else af p) := ⟨_, rfl⟩
    rw [← hBd] at i3
    have hB : ∀ j, j < g → s.testBit j = true → B.testBit j = A p j := by
      intro x hx hsx
      rw [hBd]
      by_cases e7 : p = 7
      · rw [if_pos e7, e7]; exact a.2.2.2.2.2.1 x hx
      · rw [if_neg e7]
        exact a.2.2.2.2.1 p x (by omega) hx (q2 x hsx)
    have h' := h.fr (i1.1.1 8 (by omega)) (i1.1.1 33 (by omega))
    have h34' : gp_s34 m' g L A := by unfold gp_s34; rw [i1.1.1 34 (by omega)]; exact h34
    have hfo := gp_foL hn h34' hg hL q2 (e := e - k) (by omega)
    have hfi := gp_fo_is (A := A) (p := p) (B := B) hg (s := s) (by omega) hpos hB
    rw [show gp_E g A s p = e - k by omega] at hfi
    have hbl := gp_bs1_lt (gp_cq g A s p) g
    have hne : gp_bs1 (gp_cq g A s p) g ≠ 0 := gp_bit_ne (t := j) (by rw [gp_bs1_tb, c1]; simp [c2])
    have htz := gp_tz (gp_bs1 (gp_cq g A s p) g) (by omega) hne
    have hfx : gp_fi (fun j => (gp_bs1 (gp_cq g A s p) g).testBit j) 7 0 = nI j := by
      obtain ⟨k', hk'⟩ : ∃ k', 7 = g + k' := ⟨7 - g, by omega⟩
      rw [hk', gp_fi_ext g 0 ⟨j, by omega, by omega, by rw [gp_bs1_tb, c1]; simp [c2]⟩, ← c3]
      exact gp_fi_cg g 0 (fun x _ hx => by rw [gp_bs1_tb]; simp [show x < g by omega])
    rw [hfx] at htz
    have haf := h'.2.2.2 j c2
    have hj7 : ¬ j = 7 := by omega
    refine ⟨((nI (gp_df s (2 ^ j)), nI (af j)), gn_up m' (10 + r) (0 + k) (nI j)), ⟨i1.up (by rw [hsq]), ?_, ?_⟩, ?_⟩
    · rw [hsq]
    · rw [hsq]
      dsimp only
      rw [if_neg hj7]
    · show L_X1_writeFirstRow_14 n (10 + r) (nI e) _ (f + 1) v3 v4 (nI k) m' = _
      rw [L_X1_writeFirstRow_14, i2, i3]
      have h33 : (gn_up m' (10 + r) (0 + k) (nI j)).1 33 j = nI (af j) := by rw [gp_une (by omega)]; exact haf
      rw [Nat.zero_add] at h33 ⊢
      simp (disch := omega) only [gp_lt, hk, if_true, gp_lit, show k < 40 by omega, pk_sub, hfo, gp_bs, gp_and, hfi, htz, h'.1, c2, gp_wr, gp_rd, h33, gp_sh, gp_sh2, gp_nt, nI_add]
  · show L_X1_writeFirstRow_14 n (10 + r) (nI e) _ (f + 1) _ _ (nI e) _ = _
    rw [L_X1_writeFirstRow_14]
    simp (disch := omega) only [gp_lt, Nat.lt_irrefl, if_false]
theorem gp_cq_in (hA : ∀ i j, A i j = true → L.testBit j = true) {s p j : Nat} : gp_cq g A s p j = gp_cq g A (s &&& L) p j := by
  unfold gp_cq
  rw [gp_E_in hA s p, gp_E_in hA (gp_df s (2 ^ j)) j, ← gp_rm_and]
  by_cases ha : A p j = true
  · rw [Nat.testBit_and, hA p j ha, Bool.and_true]
  · simp [ha]
theorem gp_mo69 {n : Nat} (hn : 5000 ≤ n) (hM : gp_cM m g d K Wt T G l S) (o : gp_ok g d K Wt T G l S) (hN : gp_nM m g nm) {a1 : Int32} {t p e k : Nat} (ht : t < 2 ^ g) (hp : p ≤ 7) (h53 : gp_s53 m g (gp_A (gp_lf g G) l nm) 0) (he : e ≤ 8) (hk : k ≤ e) (hE : gp_E g (gp_A (gp_lf g G) l nm) (gp_df (2 ^ g - 1) t) p = e - k) (kk : Int32 → Option (Int32 × gn_M)) : L_X4_most_69 n m a1 (nI e) (nI t) (nI p) (nI k) kk n (-nI 9) (gp_dn g 0) = kk (gp_fi (gp_cq g (gp_A (gp_lf g G) l nm) (gp_df (2 ^ g - 1) t) p) g 0) := by
  have hg := o.g7
  have h7 := gp_p7 hg
  have hpos := Nat.two_pow_pos g
  obtain ⟨L, eL⟩ : ∃ L, L = gp_lf g G := ⟨_, rfl⟩
  have hL : L < 2 ^ g := by rw [eL]; exact gp_lf_lt g G
  have el := gp_leftM hM o
  rw [← eL] at el hE h53 ⊢
  obtain ⟨A, hA⟩ : ∃ A, A = gp_A L l nm := ⟨_, rfl⟩
  rw [← hA] at hE h53 ⊢
  obtain ⟨c, hc⟩ : ∃ c, c = gp_df (2 ^ g - 1) t := ⟨_, rfl⟩
  have hcl : c < 2 ^ g := by rw [hc]; exact gp_df_lt (by omega)
  rw [← hc] at hE ⊢
  have e9 : gp_fi (gp_cq g A c p) g 0 = gp_fi (gp_cq g A c p) g (g - g) := by rw [Nat.sub_self]
  rw [e9]
  refine gp_lp0 (Lf := fun f q (acc : Int32) => L_X4_most_69 n m a1 (nI e) (nI t) (nI p) (nI k) kk f acc (gp_dn g q)) (N := g) (A := fun q => gp_fi (gp_cq g A c p) q (g - q)) (fun f q hq => ?_) (fun f => ?_) (by omega)
  · show L_X4_most_69 n m a1 (nI e) (nI t) (nI p) (nI k) kk (f + 1) _ (gp_dn g q) = _
    rw [L_X4_most_69]
    obtain ⟨i, hi⟩ : ∃ i, i = g - q - 1 := ⟨_, rfl⟩
    have hig : i < g := by omega
    have hdn : gp_dn g q = nI i := by rw [gp_dn_lt hq, hi]
    have hds : nI i + -nI 1 = gp_dn g (q + 1) := by rw [← hdn, gp_dn_s hq]
    have hfi : gp_fi (gp_cq g A c p) (q + 1) (g - (q + 1)) = if gp_cq g A c p i = true then nI i else gp_fi (gp_cq g A c p) q (g - q) := by
      rw [gp_fi, show g - (q + 1) = i by omega, show i + 1 = g - q by omega]
    show _ = L_X4_most_69 n m a1 (nI e) (nI t) (nI p) (nI k) kk f (gp_fi (gp_cq g A c p) (q + 1) (g - (q + 1))) (gp_dn g (q + 1))
    rw [hfi, hdn]
    have hmg := gp_mgL hM o hN (p := p) (j := i) hp hig
    have hct := gp_c_tb (g := g) (t := t) hig
    rw [← hc] at hct
    have hEi : gp_E g A (gp_df c (2 ^ i)) i ≤ 8 := Nat.le_trans (gp_E_le hg (gp_df_lt hcl)) (gp_po_le _)
    have hPd : gp_cq g A c p i = (!t.testBit i && (L.testBit i && gp_mg l nm p i) && decide (gp_E g A (gp_df c (2 ^ i)) i + 1 = e - k)) := by
      unfold gp_cq
      rw [hct, hE, hA]
      rfl
    rw [hPd]
    have h2 := gp_2i (i := i) (by omega)
    unfold gn_jn
    by_cases c1 : L.testBit i = true
    · by_cases c2 : t.testBit i = true
      · simp (disch := omega) only [gp_lit, gp_lt, Nat.not_lt_zero, if_false, if_true, el, gp_has, c1, c2, gp_bs, gp_eq, Nat.one_ne_zero, hds, Bool.not_true, Bool.false_and, Bool.false_eq_true]
      · have c2' : t.testBit i = false := by simpa using c2
        by_cases c3 : gp_mg l nm p i = true
        · have hor : t ||| 2 ^ i < 2 ^ g := gp_or_lt ht (gp_2_lt hig)
          have e53 := h53 (t ||| 2 ^ i) (by omega) hor i (by omega)
          rw [gp_c_or, ← hc] at e53
          by_cases c4 : gp_E g A (gp_df c (2 ^ i)) i + 1 = e - k
          · have c4' : 1 + gp_E g A (gp_df c (2 ^ i)) i = e - k := by omega
            simp (disch := omega) only [gp_lit, gp_lt, Nat.not_lt_zero, if_false, if_true, el, gp_has, c1, c2', gp_bs, gp_eq, Nat.one_ne_zero, hds, hmg, c3, gp_sh, gp_or, pk_mul, nI_add, gp_rd, e53, pk_sub, c4', c4, decide_true, Bool.not_false, Bool.and_self, Bool.false_eq_true]
          · have c4' : ¬ 1 + gp_E g A (gp_df c (2 ^ i)) i = e - k := by omega
            simp (disch := omega) only [gp_lit, gp_lt, Nat.not_lt_zero, if_false, if_true, el, gp_has, c1, c2', gp_bs, gp_eq, Nat.one_ne_zero, hds, hmg, c3, gp_sh, gp_or, pk_mul, nI_add, gp_rd, e53, pk_sub, c4', c4, decide_false, Bool.not_false, Bool.and_false, Bool.false_eq_true]
        · simp (disch := omega) only [gp_lit, gp_lt, Nat.not_lt_zero, if_false, if_true, el, gp_has, c1, c2', gp_bs, gp_eq, Nat.one_ne_zero, hds, hmg, c3, Bool.and_false, Bool.false_and, Bool.false_eq_true]
    · simp (disch := omega) only [gp_lit, gp_lt, Nat.not_lt_zero, if_false, if_true, el, gp_has, c1, gp_bs, hds, Bool.and_false, Bool.false_and, Bool.false_eq_true]
  · show L_X4_most_69 n m a1 (nI e) (nI t) (nI p) (nI k) kk (f + 1) _ (gp_dn g g) = _
    rw [L_X4_most_69, gp_lit 0, if_pos gp_dn_e]
end GPRW
