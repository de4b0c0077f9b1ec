/-! PURE: sets by bits -/
theorem gp_df_tb (a b i : Nat) : (gp_df a b).testBit i = (a.testBit i && !b.testBit i) := by
  unfold gp_df
  rw [Nat.testBit_xor, Nat.testBit_and]
  cases a.testBit i <;> cases b.testBit i <;> rfl
theorem gp_bs1_tb (P : Nat → Bool) : ∀ (n i : Nat), (gp_bs1 P n).testBit i = (decide (i < n) && P i)
  | 0, i => by simp [gp_bs1]
  | n + 1, i => by
    have ih := gp_bs1_tb P n i
    unfold gp_bs1
    by_cases hp : P n
    · rw [if_pos hp, Nat.testBit_or, ih, Nat.testBit_two_pow]
      by_cases e : n = i
      · subst e; simp [hp]
      · by_cases e2 : i < n
        · simp [e, e2, Nat.lt_succ_of_lt e2]
        · simp [e, e2, show ¬ i < n + 1 by omega]
    · rw [if_neg hp, ih]
      by_cases e : i = n
      · subst e; simp [hp]
      · by_cases e2 : i < n
        · simp [e2, Nat.lt_succ_of_lt e2]
        · simp [e2, show ¬ i < n + 1 by omega]
theorem gp_bs1_lt (P : Nat → Bool) (n : Nat) : gp_bs1 P n < 2 ^ n := by
  apply Nat.lt_pow_two_of_testBit
  intro i hi
  rw [gp_bs1_tb]
  simp [show ¬ i < n by omega]
theorem gp_bs1_cg {P Q : Nat → Bool} {n : Nat} (h : ∀ i, i < n → P i = Q i) : gp_bs1 P n = gp_bs1 Q n := by
  apply Nat.eq_of_testBit_eq
  intro i
  rw [gp_bs1_tb, gp_bs1_tb]
  by_cases e : i < n
  · rw [h i e]
  · simp [e]
theorem gp_or (a b : Nat) : nI a ||| nI b = nI (a ||| b) := fa_or a b
theorem gp_and (a b : Nat) : nI a &&& nI b = nI (a &&& b) := fa_and a b
theorem gp_smod : ∀ n, n < 32 → ((nI n &&& nI 31).toBitVec.smod 32).toNat = n := by decide +kernel
theorem gp_sh {i : Nat} (h : i < 31) : nI 1 <<< (nI i &&& nI 31) = nI (2 ^ i) := by
  have e := pk_shlN (n := 1) (nI i &&& nI 31) i (gp_smod i (by omega)) (by
    have : 2 ^ i < 2 ^ 31 := Nat.pow_lt_pow_right (by decide) h
    omega)
  rw [Nat.one_mul] at e
  exact e
theorem gp_shr {s i : Nat} (hs : s < 2147483648) (h : i < 31) : nI s >>> (nI i &&& nI 31) = nI (s / 2 ^ i) := pk_shrN (by omega) _ i (gp_smod i (by omega))
theorem gp_a31 {i : Nat} (h : i < 32) : i &&& 31 = i := by
  rw [show (31 : Nat) = 2 ^ 5 - 1 from rfl, Nat.and_two_pow_sub_one_eq_mod]
  exact Nat.mod_eq_of_lt h
theorem gp_sh2 {i : Nat} (h : i < 31) : nI 1 <<< nI (i &&& 31) = nI (2 ^ i) := by rw [← gp_sh h, gp_and]
theorem gp_shr2 {s i : Nat} (hs : s < 2147483648) (h : i < 31) : nI s >>> nI (i &&& 31) = nI (s / 2 ^ i) := by rw [← gp_shr hs h, gp_and]
theorem gp_bv (a : Nat) : (nI a).toBitVec = BitVec.ofNat 32 a := rfl
theorem gp_nt (a b : Nat) : nI a &&& (nI b ^^^ -nI 1) = nI (gp_df a b) := by
  apply Int32.toBitVec_inj.mp
  apply BitVec.eq_of_getLsbD_eq
  intro i hi
  have e1 : (-nI 1).toBitVec = BitVec.allOnes 32 := by decide
  rw [Int32.toBitVec_and, Int32.toBitVec_xor, e1, gp_bv, gp_bv, gp_bv, BitVec.getLsbD_and, BitVec.getLsbD_xor, BitVec.getLsbD_allOnes, BitVec.getLsbD_ofNat, BitVec.getLsbD_ofNat, BitVec.getLsbD_ofNat, gp_df_tb]
  cases a.testBit i <;> cases b.testBit i <;> simp [hi]
theorem gp_bit {s i : Nat} : (s / 2 ^ i % 2 = 1) = (s.testBit i = true) := by
  rw [Nat.testBit_eq_decide_div_mod_eq]
  simp
theorem gp_one {s i : Nat} (hs : s < 2147483648) (h : i < 31) : (nI s >>> (nI i &&& nI 31)) &&& nI 1 = if s.testBit i then nI 1 else nI 0 := by
  rw [gp_shr hs h, gp_and, Nat.and_one_is_mod]
  have := Nat.mod_two_eq_zero_or_one (s / 2 ^ i)
  by_cases e : s.testBit i = true
  · rw [if_pos e]
    rw [← gp_bit] at e
    rw [e]
  · rw [if_neg e]
    rw [← gp_bit] at e
    rw [show s / 2 ^ i % 2 = 0 by omega]
theorem gp_isIn {s i : Nat} (hs : s < 2147483648) (h : i < 31) : f_X3_isIn (nI s) (nI i) = some (if s.testBit i then nI 1 else nI 0) := by
  simp only [f_X3_isIn, gp_lit, gp_one hs h]
  by_cases e : s.testBit i = true
  · simp (disch := omega) [e, gp_eq]
  · simp (disch := omega) [e]
theorem gp_has {s i : Nat} (hs : s < 2147483648) (h : i < 31) : f_X4_has (nI s) (nI i) = some (if s.testBit i then nI 1 else nI 0) := by
  simp only [f_X4_has, gp_lit, gp_one hs h]
  by_cases e : s.testBit i = true
  · simp (disch := omega) [e, gp_eq]
  · simp (disch := omega) [e, gp_eq]
theorem gp_ite1 {b : Bool} : ((if b = true then nI 1 else nI 0) = nI 0) = (b = false) := by
  cases b
  · simp
  · simp (disch := omega) [gp_eq]
/-- how many -/
def gp_po (s : Nat) : Nat := s % 2 + s / 2 % 2 + s / 4 % 2 + s / 8 % 2 + s / 16 % 2 + s / 32 % 2 + s / 64 % 2 + s / 128 % 2
theorem gp_po_le (s : Nat) : gp_po s ≤ 8 := by unfold gp_po; omega
theorem gp_bc : ∀ s, s < 128 → f_J6_bitCount_0f7a4 (nI s) = some (nI (gp_po s)) := by decide +kernel
def gp_pcs (s : Nat) : Nat → Nat
  | 0 => 0
  | i + 1 => gp_pcs s i + s / 2 ^ i % 2
theorem gp_bits {n s : Nat} (hn : 5000 ≤ n) (hs : s < 2147483648) : f_X4_bitsOf n (nI s) = some (nI (gp_po s)) := by
  unfold f_X4_bitsOf
  have e8 : gp_pcs s 8 = gp_po s := by simp [gp_pcs, gp_po]
  rw [← e8]
  refine gp_lp0 (Lf := fun f i (acc : Int32) => L_X4_bitsOf_4 n (nI s) (fun e => some e) f acc (nI i)) (N := 8) (A := fun i => nI (gp_pcs s i)) (fun f i hi => ?_) (fun f => ?_) (by omega)
  · show L_X4_bitsOf_4 n (nI s) _ (f + 1) _ (nI i) = _
    rw [L_X4_bitsOf_4]
    simp (disch := omega) only [gp_lit, gp_lt, hi, if_true, gp_shr, gp_shr2, gp_and, Nat.and_one_is_mod, nI_add]
    rfl
  · show L_X4_bitsOf_4 n (nI s) _ (f + 1) _ (nI 8) = _
    rw [L_X4_bitsOf_4]
    simp (disch := omega) [gp_lit, gp_lt]
theorem gp_tA {c i s : Nat} (hc : c < 6) (hi : i < 31) : f_X3_tellingAs (nI c) (nI i) (nI s) = some (nI (gp_tl c i s)) := by
  rcases (show c = 0 ∨ c = 1 ∨ c = 2 ∨ c = 3 ∨ c = 4 ∨ c = 5 by omega) with rfl | rfl | rfl | rfl | rfl | rfl <;> simp (disch := omega) [f_X3_tellingAs, gp_lit, gp_eq, gp_tl, gp_sh, gp_sh2, gp_or, gp_nt]
theorem gp_tl4 (s i : Nat) : gp_df s (2 ^ i) ||| 2 ^ i = s ||| 2 ^ i := by
  apply Nat.eq_of_testBit_eq
  intro j
  rw [Nat.testBit_or, Nat.testBit_or, gp_df_tb]
  cases s.testBit j <;> cases (2 ^ i).testBit j <;> rfl
theorem gp_tB {c i s : Nat} (hc : c < 6) (hi : i < 31) : f_X4_tellsBy (nI i) (nI c) (nI s) = some (nI (gp_tl c i s)) := by
  rcases (show c = 0 ∨ c = 1 ∨ c = 2 ∨ c = 3 ∨ c = 4 ∨ c = 5 by omega) with rfl | rfl | rfl | rfl | rfl | rfl <;> simp (disch := omega) [f_X4_tellsBy, gp_lit, gp_eq, gp_tl, gp_sh, gp_sh2, gp_or, gp_nt, gp_tl4]
