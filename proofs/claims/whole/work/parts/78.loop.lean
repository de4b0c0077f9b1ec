/-! PURE: the loop of the law -/
theorem gp_rx {α : Type} {L : Nat} {xs : Nat → Int32} {i : Nat} (h : i < L) (hi : i < 2147483648) {K : Int32 → Option α} : gn_rx L xs (nI i) K = K (xs i) := by
  unfold gn_rx
  have e : ¬ (nI i < 0 ∨ L ≤ (nI i).toNatClampNeg) := by
    rw [gp_cl hi]
    have := gp_nn hi
    intro hh
    rcases hh with hh | hh
    · exact (this ▸ hh : False)
    · omega
  rw [if_neg e, gp_cl hi]
theorem gp_cmps (x : Int64) : lg_cmp x x = 0 := by
  unfold lg_cmp
  rw [if_neg (fun z => Int64.lt_irrefl z), if_pos rfl]
theorem gp_end {L i : Nat} (hL : L ≤ 3072) (hi : L < i + 6) (hi2 : i ≤ L) : Int32.ofNat L - (6 : Int32) < nI i := by
  show nI L - nI 6 < nI i
  rw [gp_sublt (by omega) (by omega) (by omega)]
  omega
set_option maxRecDepth 100000 in
set_option maxHeartbeats 4000000 in
theorem gp_lawS {n : Nat} (hn : 5000 ≤ n) {L : Nat} {xs : Nat → Int32} {k : gn_M → Option (Int32 × gn_M)} {f i : Nat} {m : gn_M} (h : gp_rel m) (hL : L ≤ 3072) (hi : i + 6 ≤ L) : ∃ m', gp_rel m' ∧ L_L_law_18 L xs n k (f + 1) (nI i) m = L_L_law_18 L xs n k f (nI (i + 6)) m' := by
  have e1 : nI i + (1 : Int32) = nI (i + 1) := nI_add i 1
  have e2 : nI i + (2 : Int32) = nI (i + 2) := nI_add i 2
  have e3 : nI i + (3 : Int32) = nI (i + 3) := nI_add i 3
  have e4 : nI i + (4 : Int32) = nI (i + 4) := nI_add i 4
  have e5 : nI i + (5 : Int32) = nI (i + 5) := nI_add i 5
  have e6 : nI i + (6 : Int32) = nI (i + 6) := nI_add i 6
  have r0 : ∀ K : Int32 → Option (Int32 × gn_M), gn_rx L xs (nI (i + 0)) K = K (xs (i + 0)) := fun K => gp_rx (by omega) (by omega)
  have r1 : ∀ K : Int32 → Option (Int32 × gn_M), gn_rx L xs (nI (i + 1)) K = K (xs (i + 1)) := fun K => gp_rx (by omega) (by omega)
  have r2 : ∀ K : Int32 → Option (Int32 × gn_M), gn_rx L xs (nI (i + 2)) K = K (xs (i + 2)) := fun K => gp_rx (by omega) (by omega)
  have r3 : ∀ K : Int32 → Option (Int32 × gn_M), gn_rx L xs (nI (i + 3)) K = K (xs (i + 3)) := fun K => gp_rx (by omega) (by omega)
  have r4 : ∀ K : Int32 → Option (Int32 × gn_M), gn_rx L xs (nI (i + 4)) K = K (xs (i + 4)) := fun K => gp_rx (by omega) (by omega)
  have r5 : ∀ K : Int32 → Option (Int32 × gn_M), gn_rx L xs (nI (i + 5)) K = K (xs (i + 5)) := fun K => gp_rx (by omega) (by omega)
  have r0' : ∀ K : Int32 → Option (Int32 × gn_M), gn_rx L xs (nI i) K = K (xs i) := fun K => gp_rx (by omega) (by omega)
  have c0 : ¬ (Int32.ofNat L - (6 : Int32) < nI i) := by
    show ¬ (nI L - nI 6 < nI i)
    rw [gp_sublt (by omega) (by omega) (by omega)]
    omega
  rw [L_L_law_18, if_neg c0, e1, e2, e3, e4, e5, e6, r0']
  by_cases c1 : xs i &&& (63 : Int32) = 0
  · rw [if_pos c1]
    obtain ⟨r, m1, m2, z1, z2, z3⟩ := op_row hn h (xs (i + 1)) (xs (i + 2))
    refine ⟨m2, z3, ?_⟩
    rw [r1, r2, z1, gp_bs]
    dsimp only
    rw [r1, r2, z2, gp_bs]
    exact if_pos rfl
  rw [if_neg c1]
  by_cases c2 : xs i &&& (63 : Int32) = 1
  · rw [if_pos c2]
    obtain ⟨r, m1, m2, z1, z2, z3⟩ := op_lay h (xs (i + 1)) (xs (i + 2)) (xs (i + 3))
    refine ⟨m2, z3, ?_⟩
    rw [r1, r2, r3, z1, gp_bs]
    dsimp only
    rw [r1, r2, r3, z2, gp_bs]
    exact if_pos rfl
  rw [if_neg c2]
  by_cases c3 : xs i &&& (63 : Int32) = 2
  · rw [if_pos c3]
    obtain ⟨r, m1, m2, z1, z2, z3⟩ := op_at h (xs (i + 1)) (xs (i + 2))
    refine ⟨m2, z3, ?_⟩
    rw [r1, r2, z1, gp_bs]
    dsimp only
    rw [r1, r2, z2, gp_bs]
    exact if_pos rfl
  rw [if_neg c3]
  by_cases c4 : xs i &&& (63 : Int32) = 3
  · rw [if_pos c4]
    obtain ⟨r, m1, m2, z1, z2, z3⟩ := op_tear h (xs (i + 1))
    refine ⟨m2, z3, ?_⟩
    rw [r1, z1, gp_bs]
    dsimp only
    rw [r1, z2, gp_bs]
    exact if_pos rfl
  rw [if_neg c4]
  by_cases c5 : xs i &&& (63 : Int32) = 4
  · rw [if_pos c5]
    obtain ⟨r, m1, m2, z1, z2, z3⟩ := op_copy hn h (xs (i + 1)) (xs (i + 2)) (xs (i + 3)) (xs (i + 4)) (xs (i + 5))
    refine ⟨m2, z3, ?_⟩
    rw [r1, r2, r3, r4, r5, z1, gp_bs]
    dsimp only
    rw [r1, r2, r3, r4, r5, z2, gp_bs]
    exact if_pos rfl
  rw [if_neg c5]
  by_cases c6 : xs i &&& (63 : Int32) = 5
  · rw [if_pos c6]
    obtain ⟨r, m1, m2, z1, z2, z3⟩ := op_mean hn h (xs (i + 1))
    refine ⟨m2, z3, ?_⟩
    rw [r1, z1, gp_bs]
    dsimp only
    rw [r1, z2, gp_bs]
    exact if_pos rfl
  rw [if_neg c6]
  by_cases c7 : xs i &&& (63 : Int32) = 6
  · rw [if_pos c7]
    obtain ⟨r, m1, m2, z1, z2, z3⟩ := op_text hn h (xs (i + 1)) (xs (i + 2))
    refine ⟨m2, z3, ?_⟩
    rw [r1, r2, z1, gp_bs]
    dsimp only
    rw [r1, r2, z2, gp_bs]
    exact if_pos rfl
  rw [if_neg c7]
  by_cases c8 : xs i &&& (63 : Int32) = 7
  · rw [if_pos c8]
    obtain ⟨r, m1, m2, z1, z2, z3⟩ := op_put h (xs (i + 1)) (xs (i + 2)) (xs (i + 3))
    refine ⟨m2, z3, ?_⟩
    rw [r1, r2, r3, z1, gp_bs]
    dsimp only
    rw [r1, r2, r3, z2, gp_bs]
    exact if_pos rfl
  rw [if_neg c8]
  by_cases c9 : xs i &&& (63 : Int32) = 8
  · rw [if_pos c9]
    obtain ⟨r, m1, m2, z1, z2, z3⟩ := op_fault hn h (xs (i + 1))
    refine ⟨m2, z3, ?_⟩
    rw [r1, z1, gp_bs]
    dsimp only
    rw [r1, z2, gp_bs]
    exact if_pos rfl
  rw [if_neg c9]
  by_cases c10 : xs i &&& (63 : Int32) = 9
  · rw [if_pos c10]
    obtain ⟨r, m1, m2, z1, z2, z3⟩ := op_gate hn h (xs (i + 1))
    refine ⟨m2, z3, ?_⟩
    rw [r1, z1, gp_bs]
    dsimp only
    rw [r1, z2, gp_bs]
    exact if_pos rfl
  rw [if_neg c10]
  by_cases c11 : xs i &&& (63 : Int32) = 10
  · rw [if_pos c11]
    obtain ⟨r, m1, m2, z1, z2, z3⟩ := op_goer hn h (xs (i + 1)) (xs (i + 2))
    refine ⟨m2, z3, ?_⟩
    rw [r1, r2, z1, gp_bs]
    dsimp only
    rw [r1, r2, z2, gp_bs]
    exact if_pos rfl
  rw [if_neg c11]
  by_cases c12 : xs i &&& (63 : Int32) = 11
  · rw [if_pos c12]
    obtain ⟨r, m1, m2, z1, z2, z3⟩ := op_mark hn h (xs (i + 1)) (xs (i + 2))
    refine ⟨m2, z3, ?_⟩
    rw [r1, r2, z1, gp_bs]
    dsimp only
    rw [r1, r2, z2, gp_bs]
    exact if_pos rfl
  rw [if_neg c12]
  by_cases c13 : xs i &&& (63 : Int32) = 12
  · rw [if_pos c13]
    obtain ⟨r, z1, z2⟩ := op_tells h (xs (i + 1)) (xs (i + 2))
    refine ⟨m, h, ?_⟩
    rw [r1, r2, z1, gp_bs, r1, r2, z2, gp_bs, if_pos rfl]
  rw [if_neg c13]
  by_cases c14 : xs i &&& (63 : Int32) = 13
  · rw [if_pos c14]
    obtain ⟨r, m1, m2, z1, z2, z3⟩ := op_meet hn h (xs (i + 1)) (xs (i + 2))
    refine ⟨m2, z3, ?_⟩
    rw [r1, r2, z1, gp_bs]
    dsimp only
    rw [r1, r2, z2, gp_bs]
    exact if_pos rfl
  rw [if_neg c14]
  by_cases c15 : xs i &&& (63 : Int32) = 14
  · rw [if_pos c15]
    obtain ⟨r, m1, m2, z1, z2, z3⟩ := op_card hn h (xs (i + 1))
    refine ⟨m2, z3, ?_⟩
    rw [r1, z1, gp_bs]
    dsimp only
    rw [r1, z2, gp_bs]
    exact if_pos rfl
  rw [if_neg c15]
  by_cases c16 : xs i &&& (63 : Int32) = 15
  · rw [if_pos c16]
    obtain ⟨r, m1, m2, z1, z2, z3⟩ := op_reads hn h (xs (i + 1))
    refine ⟨m2, z3, ?_⟩
    rw [r1, z1, gp_bs]
    dsimp only
    rw [r1, z2, gp_bs]
    exact if_pos rfl
  rw [if_neg c16]
  by_cases c17 : xs i &&& (63 : Int32) = 16
  · rw [if_pos c17]
    obtain ⟨r, m1, m2, z1, z2, z3⟩ := op_go hn h (xs (i + 1))
    refine ⟨m2, z3, ?_⟩
    rw [r1, z1, gp_bs]
    dsimp only
    rw [r1, z2, gp_bs]
    exact if_pos rfl
  rw [if_neg c17]
  by_cases c18 : xs i &&& (63 : Int32) = 17
  · rw [if_pos c18]
    obtain ⟨r, m1, m2, z1, z2, z3⟩ := op_undo hn h (xs (i + 1))
    refine ⟨m2, z3, ?_⟩
    rw [r1, z1, gp_bs]
    dsimp only
    rw [r1, z2, gp_bs]
    exact if_pos rfl
  rw [if_neg c18]
  by_cases c19 : xs i &&& (63 : Int32) = 18
  · rw [if_pos c19]
    obtain ⟨r, m1, m2, z1, z2, z3⟩ := op_keep hn h (xs (i + 1))
    refine ⟨m2, z3, ?_⟩
    rw [r1, z1, gp_bs]
    dsimp only
    rw [r1, z2, gp_bs]
    exact if_pos rfl
  rw [if_neg c19]
  by_cases c20 : xs i &&& (63 : Int32) = 19
  · rw [if_pos c20]
    obtain ⟨r, m1, m2, z1, z2, z3⟩ := op_on hn h (xs (i + 1))
    refine ⟨m2, z3, ?_⟩
    rw [r1, z1, gp_bs]
    dsimp only
    rw [r1, z2, gp_bs]
    exact if_pos rfl
  rw [if_neg c20]
  by_cases c21 : xs i &&& (63 : Int32) = 20
  · rw [if_pos c21]
    obtain ⟨r, m1, m2, z1, z2, z3⟩ := op_open hn h
    refine ⟨m2, z3, ?_⟩
    rw [z1, gp_bs]
    dsimp only
    rw [z2, gp_bs]
    exact if_pos rfl
  rw [if_neg c21]
  by_cases c22 : xs i &&& (63 : Int32) = 21
  · rw [if_pos c22]
    obtain ⟨r, m1, m2, z1, z2, z3⟩ := op_most hn h (xs (i + 1))
    refine ⟨m2, z3, ?_⟩
    rw [r1, z1, gp_bs]
    dsimp only
    rw [r1, z2, gp_bs]
    exact if_pos rfl
  rw [if_neg c22]
  by_cases c23 : xs i &&& (63 : Int32) = 22
  · rw [if_pos c23]
    obtain ⟨r, m1, m2, z1, z2, z3⟩ := op_worth hn h
    refine ⟨m2, z3, ?_⟩
    rw [z1, gp_bs]
    dsimp only
    rw [z2, gp_bs]
    exact if_pos rfl
  rw [if_neg c23]
  by_cases c24 : xs i &&& (63 : Int32) = 23
  · rw [if_pos c24]
    obtain ⟨r, m1, m2, z1, z2, z3⟩ := op_orders hn h
    refine ⟨m2, z3, ?_⟩
    rw [z1, gp_bs]
    dsimp only
    rw [z2, gp_bs]
    exact if_pos rfl
  rw [if_neg c24]
  by_cases c25 : xs i &&& (63 : Int32) = 24
  · rw [if_pos c25]
    obtain ⟨r, m1, m2, z1, z2, z3⟩ := op_meetings hn h
    refine ⟨m2, z3, ?_⟩
    rw [z1, gp_bs]
    dsimp only
    rw [z2, gp_bs]
    exact if_pos rfl
  rw [if_neg c25]
  by_cases c26 : xs i &&& (63 : Int32) = 25
  · rw [if_pos c26]
    obtain ⟨r, m1, m2, z1, z2, z3⟩ := op_stone hn h
    refine ⟨m2, z3, ?_⟩
    rw [z1, gp_bs]
    dsimp only
    rw [z2, gp_bs]
    exact if_pos rfl
  rw [if_neg c26]
  by_cases c27 : xs i &&& (63 : Int32) = 26
  · rw [if_pos c27]
    obtain ⟨r, m1, m2, z1, z2, z3⟩ := op_hold hn h
    refine ⟨m2, z3, ?_⟩
    rw [z1, gp_bs]
    dsimp only
    rw [z2, gp_bs]
    exact if_pos rfl
  rw [if_neg c27]
  by_cases c28 : xs i &&& (63 : Int32) = 27
  · rw [if_pos c28]
    obtain ⟨r, z1, z2⟩ := op_last hn h (xs (i + 1))
    refine ⟨m, h, ?_⟩
    rw [r1, z1, gp_bs, r1, z2, gp_bs, if_pos rfl]
  rw [if_neg c28]
  by_cases c29 : xs i &&& (63 : Int32) = 28
  · rw [if_pos c29]
    obtain ⟨r, m1, m2, z1, z2, z3⟩ := op_kinds hn h (xs (i + 1)) (xs (i + 2))
    refine ⟨m2, z3, ?_⟩
    rw [r1, r2, z1, gp_bs]
    dsimp only
    rw [r1, r2, z2, gp_bs]
    exact if_pos rfl
  rw [if_neg c29]
  by_cases c30 : xs i &&& (63 : Int32) = 29
  · rw [if_pos c30]
    obtain ⟨r, m1, m2, z1, z2, z3⟩ := op_test hn h (xs (i + 1)) (xs (i + 2))
    refine ⟨m2, z3, ?_⟩
    rw [r1, r2, z1, gp_bs]
    dsimp only
    rw [r1, r2, z2, gp_bs]
    exact if_pos rfl
  rw [if_neg c30]
  by_cases c31 : xs i &&& (63 : Int32) = 30
  · rw [if_pos c31]
    obtain ⟨r, m1, m2, z1, z2, z3⟩ := op_duel hn h
    refine ⟨m2, z3, ?_⟩
    rw [z1, gp_bs]
    dsimp only
    rw [z2, gp_bs]
    exact if_pos rfl
  rw [if_neg c31]
  by_cases c32 : xs i &&& (63 : Int32) = 31
  · rw [if_pos c32]
    obtain ⟨r, m1, m2, z1, z2, z3⟩ := op_odds hn h (xs (i + 1))
    refine ⟨m2, z3, ?_⟩
    rw [r1, z1, gp_bs]
    dsimp only
    rw [r1, z2, gp_bs]
    exact if_pos rfl
  rw [if_neg c32]
  by_cases c33 : xs i &&& (63 : Int32) = 32
  · rw [if_pos c33]
    obtain ⟨r, m1, m2, z1, z2, z3⟩ := op_mid hn h (xs (i + 1))
    refine ⟨m2, z3, ?_⟩
    rw [r1, z1, gp_bs]
    dsimp only
    rw [r1, z2, gp_bs]
    exact if_pos rfl
  rw [if_neg c33]
  by_cases c34 : xs i &&& (63 : Int32) = 33
  · rw [if_pos c34]
    obtain ⟨r, m1, m2, z1, z2, z3⟩ := op_lots hn h (xs (i + 1)) (xs (i + 2))
    refine ⟨m2, z3, ?_⟩
    rw [r1, r2, z1, gp_bs]
    dsimp only
    rw [r1, r2, z2, gp_bs]
    exact if_pos rfl
  rw [if_neg c34]
  by_cases c35 : xs i &&& (63 : Int32) = 34
  · rw [if_pos c35]
    obtain ⟨r, z1, z2⟩ := op_asked h
    refine ⟨m, h, ?_⟩
    rw [z1, gp_bs, z2, gp_bs, if_pos rfl]
  rw [if_neg c35]
  by_cases c36 : xs i &&& (63 : Int32) = 35
  · rw [if_pos c36]
    obtain ⟨r, z1, z2⟩ := op_upper h
    refine ⟨m, h, ?_⟩
    rw [z1, gp_bs, z2, gp_bs, if_pos (gp_cmps r)]
  rw [if_neg c36]
  by_cases c37 : xs i &&& (63 : Int32) = 36
  · rw [if_pos c37]
    obtain ⟨r, z1, z2⟩ := op_lower h
    refine ⟨m, h, ?_⟩
    rw [z1, gp_bs, z2, gp_bs, if_pos (gp_cmps r)]
  rw [if_neg c37]
  by_cases c38 : xs i &&& (63 : Int32) = 37
  · rw [if_pos c38]
    obtain ⟨r, z1, z2⟩ := op_count hn h (xs (i + 1))
    refine ⟨m, h, ?_⟩
    rw [r1, z1, gp_bs, r1, z2, gp_bs, if_pos rfl]
  rw [if_neg c38]
  by_cases c39 : xs i &&& (63 : Int32) = 38
  · rw [if_pos c39]
    obtain ⟨r, z1, z2⟩ := op_finding h
    refine ⟨m, h, ?_⟩
    rw [z1, gp_bs, z2, gp_bs, if_pos rfl]
  rw [if_neg c39]
  by_cases c40 : xs i &&& (63 : Int32) = 39
  · rw [if_pos c40]
    obtain ⟨r, z1, z2⟩ := op_findings h (xs (i + 1))
    refine ⟨m, h, ?_⟩
    rw [r1, z1, gp_bs, r1, z2, gp_bs, if_pos rfl]
  rw [if_neg c40]
  by_cases c41 : xs i &&& (63 : Int32) = 40
  · rw [if_pos c41]
    obtain ⟨r, z1, z2⟩ := op_digest hn h
    refine ⟨m, h, ?_⟩
    rw [z1, gp_bs, z2, gp_bs, if_pos (gp_cmps r)]
  rw [if_neg c41]
  exact ⟨m, h, rfl⟩
theorem gp_lawL {n : Nat} (hn : 5000 ≤ n) {L : Nat} {xs : Nat → Int32} (hL : L ≤ 3072) {k : gn_M → Option (Int32 × gn_M)} : ∀ c i f m, L < i + 6 * c + 6 → c < f → i ≤ L → gp_rel m → ∃ m', gp_rel m' ∧ L_L_law_18 L xs n k f (nI i) m = k m' := by
  intro c
  induction c with
  | zero =>
    intro i f m hi hf hiL h
    obtain ⟨f, rfl⟩ : ∃ f', f = f' + 1 := ⟨f - 1, by omega⟩
    refine ⟨m, h, ?_⟩
    rw [L_L_law_18, if_pos]
    exact gp_end (by omega) (by omega) (by omega)
  | succ c ih =>
    intro i f m hi hf hiL h
    obtain ⟨f, rfl⟩ : ∃ f', f = f' + 1 := ⟨f - 1, by omega⟩
    by_cases q : i + 6 ≤ L
    · obtain ⟨m1, a1, a2⟩ := gp_lawS hn (xs := xs) (k := k) (f := f) h hL q
      obtain ⟨m2, b1, b2⟩ := ih (i + 6) f m1 (by omega) (by omega) q a1
      exact ⟨m2, b1, a2.trans b2⟩
    · refine ⟨m, h, ?_⟩
      rw [L_L_law_18, if_pos]
      exact gp_end (by omega) (by omega) (by omega)
