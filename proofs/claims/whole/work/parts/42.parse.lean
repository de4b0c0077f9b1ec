/-! PURE: reading a text -/
/-- the kind of a letter -/
def gp_kI (x : Int32) : Int32 := if x = 103 then 0 else if x = 107 then 1 else if x = 115 then 2 else if x = 109 then 3 else if x = 105 then 4 else if x = 102 then 5 else -9
theorem gp_kIM (x : Int32) : f_X4_kindOf x = some (gp_kI x) := by
  unfold f_X4_kindOf gp_kI
  repeat' split
  all_goals rfl
theorem gp_kIC {n : Nat} (hn : 5000 ≤ n) {m : gn_M} (x : Int32) : f_X3_kindOfLetter n m x = some (gp_kI x) := by
  unfold f_X3_kindOfLetter
  obtain ⟨k, rfl⟩ : ∃ k, n = k + 7 := ⟨n - 7, by omega⟩
  have st : ∀ (N f j : Nat), j < 6 → L_X3_kindOfLetter_2 N m x (fun _ => some (-9 : Int32)) (f + 1) (nI j) = if gn_let j = x then some (nI j) else L_X3_kindOfLetter_2 N m x (fun _ => some (-9 : Int32)) f (nI (j + 1)) := fun N f j hj => by
    rw [L_X3_kindOfLetter_2]
    simp (disch := omega) only [gp_lit, gp_lt, hj, if_true, gp_rl, nI_add]
  have en : ∀ (N f : Nat), L_X3_kindOfLetter_2 N m x (fun _ => some (-9 : Int32)) (f + 1) (nI 6) = some (-9 : Int32) := fun N f => by
    rw [L_X3_kindOfLetter_2]
    simp (disch := omega) only [gp_lit, gp_lt, Nat.lt_irrefl, if_false]
  show L_X3_kindOfLetter_2 (k + 7) m x _ (k + 7) (nI 0) = _
  rw [st _ _ 0 (by decide), st _ _ 1 (by decide), st _ _ 2 (by decide), st _ _ 3 (by decide), st _ _ 4 (by decide), st _ _ 5 (by decide), en]
  unfold gp_kI
  show (if (103 : Int32) = x then some (0 : Int32) else if (107 : Int32) = x then some 1 else if (115 : Int32) = x then some 2 else if (109 : Int32) = x then some 3 else if (105 : Int32) = x then some 4 else if (102 : Int32) = x then some 5 else some (-9)) = _
  simp only [eq_comm (b := x)]
  repeat' split
  all_goals rfl
def gp_fg (x : Int32) : Bool := decide (¬ x < nI 48 ∧ ¬ nI 57 < x)
theorem gp_fgC (x : Int32) : f_X3_isFigure x = some (if gp_fg x then nI 1 else nI 0) := by
  unfold f_X3_isFigure gp_fg
  simp only [gp_lit]
  by_cases h1 : x < nI 48 <;> by_cases h2 : nI 57 < x <;> simp [h1, h2]
theorem gp_fgM (x : Int32) : f_X4_in x (nI 48) (nI 57) = some (if gp_fg x then nI 1 else nI 0) := by
  unfold f_X4_in gp_fg
  simp only [gp_lit]
  by_cases h1 : x < nI 48 <;> by_cases h2 : nI 57 < x <;> simp [h1, h2]
/-- what a text says from a place on: the fault, and where goers stand -/
def gp_prs (X : Nat → Int32) (z : Nat) : Nat → Nat → Nat → Int32 × List Nat
  | 0, _, _ => (-9, [])
  | f + 1, i, c => if i < z then (if X i = nI 32 then gp_prs X z f (i + 1) c else if c = 7 then (nI i, []) else if gp_kI (X i) = -9 then (nI i, []) else if ¬ (i + 1 < z ∧ gp_fg (X (i + 1)) = true) then (nI (i + 1), []) else if ¬ (i + 2 < z ∧ gp_fg (X (i + 2)) = true) then (nI (i + 2), []) else ((gp_prs X z f (i + 3) (c + 1)).1, i :: (gp_prs X z f (i + 3) (c + 1)).2)) else if c < 2 then (nI z, []) else (-9, [])
theorem gp_gs {n : Nat} (hn : 5000 ≤ n) {m : gn_M} {a z i : Nat} (hz : z ≤ 60) (hi : i < z) : f_X3_goodSigns n m a (nI z) (nI i) = some (if gp_kI (m.1 a i) = -9 then nI 0 else if ¬ (i + 1 < z ∧ gp_fg (m.1 a (i + 1)) = true) then nI 1 else if ¬ (i + 2 < z ∧ gp_fg (m.1 a (i + 2)) = true) then nI 2 else nI 3) := by
  unfold f_X3_goodSigns
  by_cases h1 : gp_kI (m.1 a i) = -9
  · simp (disch := omega) only [gp_lit, gp_lt, hi, if_true, gp_rd, gp_kIC hn, Option.bind_some, h1, show (-9 : Int32) = -nI 9 from rfl]
  · have h1' : ¬ gp_kI (m.1 a i) = -nI 9 := h1
    by_cases h2 : i + 1 < z
    · by_cases h3 : gp_fg (m.1 a (i + 1)) = true
      · by_cases h4 : i + 2 < z
        · by_cases h5 : gp_fg (m.1 a (i + 2)) = true <;> simp (disch := omega) [gp_lit, gp_lt, gp_eq, hi, gp_rd, gp_kIC hn, h1', nI_add, h2, h3, h4, h5, gp_fgC]
        · simp (disch := omega) [gp_lit, gp_lt, gp_eq, hi, gp_rd, gp_kIC hn, h1', nI_add, h2, h3, h4, gp_fgC]
      · simp (disch := omega) [gp_lit, gp_lt, gp_eq, hi, gp_rd, gp_kIC hn, h1', nI_add, h2, h3, gp_fgC]
    · simp (disch := omega) [gp_lit, gp_lt, gp_eq, hi, gp_rd, gp_kIC hn, h1', nI_add, h2]
theorem gp_flL {n : Nat} (hn : 5000 ≤ n) {m : gn_M} {a z : Nat} (hz : z ≤ 60) : ∀ (r i c f f' : Nat), z - i ≤ r → r < f → r < f' → c ≤ 7 → i ≤ 70 → L_X3_faultIn_4 n m a (nI z) (fun e3 => if e3 < (2 : Int32) then some (nI z) else some (-9 : Int32)) f (nI c) (nI i) = some (gp_prs (m.1 a) z f' i c).1
  | r, i, c, f + 1, f' + 1, h1, h2, h3, hc, hi => by
    rw [L_X3_faultIn_4, gp_prs]
    by_cases q : i < z
    · obtain ⟨r', rfl⟩ : ∃ r', r = r' + 1 := ⟨r - 1, by omega⟩
      by_cases q2 : m.1 a i = nI 32
      · have ih := gp_flL hn (m := m) (a := a) hz r' (i + 1) c f f' (by omega) (by omega) (by omega) hc (by omega)
        simp only [q, q2, if_true]
        rw [← ih]
        simp (disch := omega) only [gp_lit, gp_lt, q, if_true, gp_rd, q2, nI_add]
      · by_cases q3 : c = 7
        · simp (disch := omega) only [gp_lit, gp_lt, gp_eq, q, if_true, if_false, gp_rd, q2, q3]
        · have gs := gp_gs hn (m := m) (a := a) hz q
          have ih := gp_flL hn (m := m) (a := a) hz r' (i + 3) (c + 1) f f' (by omega) (by omega) (by omega) (by omega) (by omega)
          by_cases c1 : gp_kI (m.1 a i) = -9
          · simp only [c1, if_true] at gs
            simp (disch := omega) only [gp_lit, gp_lt, gp_eq, q, if_true, if_false, gp_rd, q2, q3, gs, Option.bind_some, show (0 : Nat) < 3 by decide, nI_add, Nat.add_zero, c1]
          · have c1' : ¬ gp_kI (m.1 a i) = -nI 9 := c1
            by_cases c2 : i + 1 < z ∧ gp_fg (m.1 a (i + 1)) = true
            · by_cases c3 : i + 2 < z ∧ gp_fg (m.1 a (i + 2)) = true
              · simp only [c1, c2, c3, if_false, not_true, and_self] at gs
                simp only [q, q2, q3, c1, c2, c3, if_true, if_false, not_true, and_self]
                rw [← ih]
                simp (disch := omega) only [gp_lit, gp_lt, gp_eq, q, if_true, if_false, gp_rd, q2, q3, gs, Option.bind_some, Nat.lt_irrefl, nI_add]
              · simp only [c1, c2, c3, if_false, if_true, not_true, not_false_iff, and_self] at gs
                simp (disch := omega) only [gp_lit, gp_lt, gp_eq, q, if_true, if_false, gp_rd, q2, q3, gs, Option.bind_some, show (2 : Nat) < 3 by decide, nI_add, c1', c2, c3, not_true, not_false_iff, and_self]
            · simp only [c1, c2, if_false, if_true, not_false_iff] at gs
              simp (disch := omega) only [gp_lit, gp_lt, gp_eq, q, if_true, if_false, gp_rd, q2, q3, gs, Option.bind_some, show (1 : Nat) < 3 by decide, nI_add, c1', c2, not_false_iff]
    · by_cases q4 : c < 2
      · simp (disch := omega) only [gp_lit, gp_lt, q, if_false, q4, if_true]
      · simp (disch := omega) only [gp_lit, gp_lt, q, if_false, q4]
