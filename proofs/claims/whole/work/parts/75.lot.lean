/-! PURE: lots: one of them -/
/-- what a lot does -/
def gp_lw (g : Nat) (K : Nat → Nat) (s : gp_St) (x : Nat) : Nat := if x % 4 = 0 then (if x / 8 % g ≠ x / 64 % g ∧ s.2.1.testBit (x / 8 % g) = false ∧ s.2.1.testBit (x / 64 % g) = false then 1 else 0) else if x % 4 = 1 then (if s.2.1.testBit (x / 8 % g) = false then 2 else 0) else if x % 4 = 2 then (if s.2.1.testBit (x / 8 % g) = false then 3 else 0) else (if gp_op g K s.1 s.2.1 s.2.2.1 (x / 8 % g) = true then 4 else 0)
theorem gp_lw_le {g : Nat} {K : Nat → Nat} {s : gp_St} {x : Nat} : gp_lw g K s x ≤ 4 := by
  unfold gp_lw
  split
  · split <;> omega
  · split
    · split <;> omega
    · split
      · split <;> omega
      · split <;> omega
theorem gp_lw_1 {g : Nat} {K : Nat → Nat} {s : gp_St} {x : Nat} (h : gp_lw g K s x = 1) : x / 8 % g ≠ x / 64 % g := by
  unfold gp_lw at h
  split at h
  · split at h
    · next c => exact c.1
    · omega
  · split at h
    · split at h <;> omega
    · split at h
      · split at h <;> omega
      · split at h <;> omega
section GPLO
variable {m : gn_M} {g d : Nat} {K Wt : Nat → Nat} {s : gp_St}
theorem gp_cn2 {T : Nat → Nat} {G l S : Nat} (hC : gp_cC m g d K Wt T G l S) (o : gp_ok g d K Wt T G l S) {i j : Nat} (hi : i < g) (hj : j < g) : f_X0_canMeet m (nI i) (nI j) = some (if i ≠ j ∧ G.testBit i = false ∧ G.testBit j = false then nI 1 else nI 0) := by
  have hg := o.g7
  have w1 := gp_waits hC o (i := i) (by omega)
  have w2 := gp_waits hC o (i := j) (by omega)
  unfold f_X0_canMeet
  by_cases c : i = j
  · simp [c, gp_lit]
  · cases c1 : G.testBit i <;> cases c2 : G.testBit j <;> simp (disch := omega) [gp_eq, c, w1, w2, c1, c2, gp_lit]
theorem gp_doL (hC : gp_cC m g d K Wt s.1 s.2.1 s.2.2.1 s.2.2.2) (o : gp_ok g d K Wt s.1 s.2.1 s.2.2.1 s.2.2.2) (hd : d < 40) (g0 : 0 < g) {x : Nat} (hx : x < 2147483647) : ∃ m', f_X3_doByLot m (nI x) = some m' ∧ gp_cC m' g (d + 1) K Wt (gp_ap K (gp_lw g K s x) (x / 8 % g) (x / 64 % g) s).1 (gp_ap K (gp_lw g K s x) (x / 8 % g) (x / 64 % g) s).2.1 (gp_ap K (gp_lw g K s x) (x / 8 % g) (x / 64 % g) s).2.2.1 (gp_ap K (gp_lw g K s x) (x / 8 % g) (x / 64 % g) s).2.2.2 ∧ gp_fA m m' d (100 * gp_lw g K s x + 10 * (x / 8 % g) + x / 64 % g) := by
  have hg := o.g7
  have hi : x / 8 % g < g := Nat.mod_lt _ g0
  have hj : x / 64 % g < g := Nat.mod_lt _ g0
  obtain ⟨m', a1, a2, a3⟩ := gp_addC hC o hd (w := gp_lw g K s x) hi hj gp_lw_le gp_lw_1
  refine ⟨m', ?_, a2, a3⟩
  have e8 : nI x / (8 : Int32) = nI (x / 8) := pk_div (a := x) (d := 8) (by omega) (by omega) (by omega)
  have e64 : nI x / (64 : Int32) = nI (x / 64) := pk_div (a := x) (d := 64) (by omega) (by omega) (by omega)
  have e4 : nI x - nI x / (4 : Int32) * (4 : Int32) = nI (x % 4) := pk_rem (a := x) (d := 4) (by omega) (by omega) (by omega)
  have ei : nI (x / 8) - nI (x / 8) / nI g * nI g = nI (x / 8 % g) := pk_rem (by omega) (by omega) (by omega)
  have ej : nI (x / 64) - nI (x / 64) / nI g * nI g = nI (x / 64 % g) := pk_rem (by omega) (by omega) (by omega)
  have dv : ∀ {α : Type} {k : Option α}, gn_dv (nI g) k = k := by
    intro α k
    unfold gn_dv
    rw [if_neg]
    intro z
    have := (gp_eq (a := g) (b := 0) (by omega) (by decide)).mp z
    omega
  have hcn := gp_cn2 hC o hi hj
  have hw := gp_waits hC o (i := x / 8 % g) (by omega)
  have hop := gp_opC hC o hi
  have z1 : ¬ (nI 1 = (0 : Int32)) := by decide
  have z0 : (nI 0 = (0 : Int32)) := rfl
  obtain ⟨i, hidef⟩ : ∃ i, i = x / 8 % g := ⟨_, rfl⟩
  obtain ⟨j, hjdef⟩ : ∃ j, j = x / 64 % g := ⟨_, rfl⟩
  unfold f_X3_doByLot
  rw [hC.1.1, dv, dv, e8, e64, e4, ei, ej]
  unfold gp_lw at a1
  rw [← hidef] at a1 hcn hw hop ⊢
  rw [← hjdef] at a1 hcn ⊢
  rcases (show x % 4 = 0 ∨ x % 4 = 1 ∨ x % 4 = 2 ∨ x % 4 = 3 by omega) with c | c | c | c
  · rw [if_pos c] at a1
    rw [c, if_pos z0, hcn, gp_bs]
    by_cases q : i ≠ j ∧ s.2.1.testBit i = false ∧ s.2.1.testBit j = false
    · rw [if_pos q] at a1
      rw [if_pos q, if_neg z1, show (1 : Int32) = nI 1 from rfl, a1]
      rfl
    · rw [if_neg q] at a1
      rw [if_neg q, if_pos z0, show (0 : Int32) = nI 0 from rfl, a1]
      rfl
  · rw [if_neg (by omega), if_pos c] at a1
    rw [c, if_neg (by decide), if_pos (by decide), hw, gp_bs]
    cases q : s.2.1.testBit i
    · rw [q, if_pos rfl] at a1
      rw [if_neg (by decide), show (2 : Int32) = nI 2 from rfl, a1]
      rfl
    · rw [q, if_neg (by decide)] at a1
      rw [if_pos rfl, if_pos z0, show (0 : Int32) = nI 0 from rfl, a1]
      rfl
  · rw [if_neg (by omega), if_neg (by omega), if_pos c] at a1
    rw [c, if_neg (by decide), if_neg (by decide), if_pos (by decide), hw, gp_bs]
    cases q : s.2.1.testBit i
    · rw [q, if_pos rfl] at a1
      rw [if_neg (by decide), show (3 : Int32) = nI 3 from rfl, a1]
      rfl
    · rw [q, if_neg (by decide)] at a1
      rw [if_pos rfl, if_pos z0, show (0 : Int32) = nI 0 from rfl, a1]
      rfl
  · rw [if_neg (by omega), if_neg (by omega), if_neg (by omega)] at a1
    rw [c, if_neg (by decide), if_neg (by decide), if_neg (by decide), hop, gp_bs]
    cases q : gp_op g K s.1 s.2.1 s.2.2.1 i
    · rw [q, if_neg (by decide)] at a1
      rw [if_pos (by decide), show (0 : Int32) = nI 0 from rfl, a1]
      rfl
    · rw [q, if_pos rfl] at a1
      rw [if_pos rfl, if_neg z1, show (4 : Int32) = nI 4 from rfl, a1]
      rfl
theorem gp_loL {n : Nat} (hn : 5000 ≤ n) (hM : gp_cM m g d K Wt s.1 s.2.1 s.2.2.1 s.2.2.2) (o : gp_ok g d K Wt s.1 s.2.1 s.2.2.1 s.2.2.2) (hd : d < 40) (g0 : 0 < g) {x : Nat} : ∃ m', f_X4_lot n (gp_bg m d) (nI (x % 4)) (nI (x / 8 % g)) (nI (x / 64 % g)) = some m' ∧ gp_cM m' g (d + 1) K Wt (gp_ap K (gp_lw g K s x) (x / 8 % g) (x / 64 % g) s).1 (gp_ap K (gp_lw g K s x) (x / 8 % g) (x / 64 % g) s).2.1 (gp_ap K (gp_lw g K s x) (x / 8 % g) (x / 64 % g) s).2.2.1 (gp_ap K (gp_lw g K s x) (x / 8 % g) (x / 64 % g) s).2.2.2 ∧ gp_fM m m' d := by
  have hg := o.g7
  have h7 := gp_p7 hg
  have hi : x / 8 % g < g := Nat.mod_lt _ g0
  have hj : x / 64 % g < g := Nat.mod_lt _ g0
  have hM2 := gp_bgM hM hg
  have o2 : gp_ok g (d + 1) K Wt s.1 s.2.1 s.2.2.1 s.2.2.2 := ⟨o.1, by omega, o.2.2⟩
  obtain ⟨i, hidef⟩ : ∃ i, i = x / 8 % g := ⟨_, rfl⟩
  obtain ⟨j, hjdef⟩ : ∃ j, j = x / 64 % g := ⟨_, rfl⟩
  have ti := gp_thr hM2 o2 (i := x / 8 % g) (by omega)
  have tj := gp_thr hM2 o2 (i := x / 64 % g) (by omega)
  have hop := gp_opM hn hM2 o2 hi
  have s9 := gp_now hM2 o2.2.1 (j := 9) (by decide)
  rw [hM2.1.2.2.2.2] at s9
  unfold gp_lw
  rw [← hidef] at hi ti hop ⊢
  rw [← hjdef] at hj tj ⊢
  have z1 : ¬ (nI 1 = (0 : Int32)) := by decide
  have z0 : (nI 0 = (0 : Int32)) := rfl
  have ap0 : gp_ap K 0 i j s = s := by
    unfold gp_ap
    rfl
  have li := gp_tl_lt (c := K i) (o.2.2.1 i hi).2.2.1 hi
  have lj := gp_tl_lt (c := K j) (o.2.2.1 j hj).2.2.1 hj
  have tei := gp_tellM hM2 o2 hi
  have tej := gp_tellM hM2 o2 hj
  rcases (show x % 4 = 0 ∨ x % 4 = 1 ∨ x % 4 = 2 ∨ x % 4 = 3 by omega) with c | c | c | c
  · rw [if_pos c]
    rw [c]
    by_cases q : i ≠ j ∧ s.2.1.testBit i = false ∧ s.2.1.testBit j = false
    · rw [if_pos q]
      obtain ⟨nij, qi, qj⟩ := q
      rw [qi] at ti
      rw [qj] at tj
      obtain ⟨xi, hxi⟩ : ∃ x, x = s.1 i ||| gp_df (gp_tl (K j) j (s.1 j)) (2 ^ i) := ⟨_, rfl⟩
      obtain ⟨xj, hxj⟩ : ∃ x, x = s.1 j ||| gp_df (gp_tl (K i) i (s.1 i)) (2 ^ j) := ⟨_, rfl⟩
      have t1 := gp_tell4 hn hM2 o2 (i := i) (s := gp_tl (K j) j (s.1 j)) hi (by omega)
      rw [← hxi] at t1
      have hM3 := gp_wT hM2 hg (i := i) (t := xi) hi
      have bi : xi < 2 ^ g ∧ xi.testBit i = false := by
        rw [hxi]
        exact ⟨gp_or_lt (o.2.2.1 i hi).2.2.1 (gp_df_lt lj), gp_or_tb (o.2.2.1 i hi).2.2.2⟩
      have o3 : gp_ok g (d + 1) K Wt (fun x => if x = i then xi else s.1 x) s.2.1 s.2.2.1 s.2.2.2 := ⟨o.1, by omega, fun x hx => by
        by_cases e : x = i
        · simp only [e, if_true]; exact ⟨(o.2.2.1 i hi).1, (o.2.2.1 i hi).2.1, bi⟩
        · simp only [e, if_false]; exact o.2.2.1 x hx, o.2.2.2⟩
      have t2 := gp_tell4 hn hM3 o3 (i := j) (s := gp_tl (K i) i (s.1 i)) hj (by omega)
      simp only [show ¬ j = i from fun e => nij e.symm, if_false] at t2
      rw [← hxj] at t2
      have hM4 := gp_wT hM3 hg (i := j) (t := xj) hj
      have ea : (gp_ap K 1 i j s).1 = fun x => if x = j then xj else (fun x => if x = i then xi else s.1 x) x := by
        unfold gp_ap
        rw [if_pos rfl, hxi, hxj]
      refine ⟨gn_up (gn_up (gp_bg m d) 48 (10 * (d + 1) + i) (nI xi)) 48 (10 * (d + 1) + j) (nI xj), ?_, ?_, gp_fM.up (gp_fM.up gp_fM.bg)⟩
      · simp (disch := omega) only [f_X4_lot, gp_lit, if_true, gp_eq, nij, if_false, ti, tj, Option.bind_some, Bool.false_eq_true, f_X4_meetNow, tei, tej, t1, t2]
      · rw [ea]
        exact hM4
    · rw [if_neg q, ap0]
      refine ⟨gp_bg m d, ?_, hM2, gp_fM.bg⟩
      by_cases q1 : i = j
      · simp (disch := omega) only [f_X4_lot, gp_lit, if_true, gp_eq, if_pos q1]
      · cases q2 : s.2.1.testBit i
        · cases q3 : s.2.1.testBit j
          · exact absurd ⟨q1, q2, q3⟩ q
          · rw [q2] at ti
            rw [q3] at tj
            simp (disch := omega) only [f_X4_lot, gp_lit, if_true, gp_eq, if_neg q1, ti, tj, Option.bind_some, Bool.false_eq_true, if_false, Nat.one_ne_zero]
        · rw [q2] at ti
          simp (disch := omega) only [f_X4_lot, gp_lit, if_true, gp_eq, if_neg q1, ti, Option.bind_some, if_false, Nat.one_ne_zero]
  · rw [if_neg (show ¬ x % 4 = 0 by omega), if_pos c, c]
    cases q : s.2.1.testBit i
    · rw [if_pos rfl]
      rw [q] at ti
      have hM3 := gp_wS hM2 hg (s := s.2.2.2 ||| gp_tl (K i) i (s.1 i))
      refine ⟨gn_up (gp_bg m d) 48 (10 * (d + 1) + 9) (nI (s.2.2.2 ||| gp_tl (K i) i (s.1 i))), ?_, hM3, gp_fM.up gp_fM.bg⟩
      simp (disch := omega) only [f_X4_lot, gp_lit, if_true, gp_eq, if_false, Nat.one_ne_zero, hM2.1.2.1, pk_mul, nI_add, gp_rd, hM2.1.2.2.2.2, ti, Option.bind_some, Bool.false_eq_true, tei, gp_or, gp_wr]
    · rw [if_neg (by decide), ap0]
      rw [q] at ti
      have hM3 := gp_wS hM2 hg (s := s.2.2.2)
      refine ⟨gn_up (gp_bg m d) 48 (10 * (d + 1) + 9) (nI s.2.2.2), ?_, hM3, gp_fM.up gp_fM.bg⟩
      simp (disch := omega) only [f_X4_lot, gp_lit, if_true, gp_eq, if_false, Nat.one_ne_zero, hM2.1.2.1, pk_mul, nI_add, gp_rd, hM2.1.2.2.2.2, ti, Option.bind_some, gp_or, Nat.or_zero, gp_wr]
  · rw [if_neg (show ¬ x % 4 = 0 by omega), if_neg (show ¬ x % 4 = 1 by omega), if_pos c, c]
    cases q : s.2.1.testBit i
    · rw [if_pos rfl]
      rw [q] at ti
      have hsl := o.2.2.2.2.1
      have t1 := gp_tell4 hn hM2 o2 (i := i) (s := s.2.2.2) hi (by omega)
      have hM3 := gp_wT hM2 hg (i := i) (t := s.1 i ||| gp_df s.2.2.2 (2 ^ i)) hi
      refine ⟨gn_up (gp_bg m d) 48 (10 * (d + 1) + i) (nI (s.1 i ||| gp_df s.2.2.2 (2 ^ i))), ?_, hM3, gp_fM.up gp_fM.bg⟩
      unfold f_X4_lot gn_jn
      simp (disch := omega) only [gp_lit, if_true, gp_eq, if_false, Nat.one_ne_zero, show ¬ 2 = 0 by omega, show ¬ 2 = 1 by omega, ti, s9, t1, Option.bind_some, Bool.false_eq_true]
    · rw [if_neg (by decide), ap0]
      rw [q] at ti
      have t1 := gp_tell4 hn hM2 o2 (i := i) (s := 0) hi (by omega)
      have hd0 : s.1 i ||| gp_df 0 (2 ^ i) = s.1 i := by
        apply Nat.eq_of_testBit_eq
        intro y
        rw [Nat.testBit_or, gp_df_tb, Nat.zero_testBit]
        simp
      rw [hd0] at t1
      have hM3 := gp_wT hM2 hg (i := i) (t := s.1 i) hi
      have eT : (fun x => if x = i then s.1 i else s.1 x) = s.1 := by
        funext y
        by_cases e : y = i
        · rw [if_pos e, e]
        · rw [if_neg e]
      rw [eT] at hM3
      refine ⟨gn_up (gp_bg m d) 48 (10 * (d + 1) + i) (nI (s.1 i)), ?_, hM3, gp_fM.up gp_fM.bg⟩
      unfold f_X4_lot gn_jn
      simp (disch := omega) only [gp_lit, if_true, gp_eq, if_false, Nat.one_ne_zero, show ¬ 2 = 0 by omega, show ¬ 2 = 1 by omega, ti, t1, Option.bind_some]
  · rw [if_neg (show ¬ x % 4 = 0 by omega), if_neg (show ¬ x % 4 = 1 by omega), if_neg (show ¬ x % 4 = 2 by omega), c]
    cases q : gp_op g K s.1 s.2.1 s.2.2.1 i
    · rw [if_neg (by decide), ap0]
      rw [q] at hop
      refine ⟨gp_bg m d, ?_, hM2, gp_fM.bg⟩
      simp (disch := omega) only [f_X4_lot, gp_lit, if_true, gp_eq, if_false, show ¬ 3 = 0 by omega, show ¬ 3 = 1 by omega, show ¬ 3 = 2 by omega, hop, Option.bind_some, Bool.false_eq_true]
    · rw [if_pos rfl]
      rw [q] at hop
      have hM3 := gp_wG hM2 hg (s := s.2.1 ||| 2 ^ i) (i := i) (by omega)
      have u16 : ∀ x, (gn_up (gp_bg m d) 48 (10 * (d + 1) + 7) x).1 38 16 = nI (d + 1) := fun x => by rw [gp_une (by decide)]; exact hM2.1.2.1
      refine ⟨gn_up (gn_up (gp_bg m d) 48 (10 * (d + 1) + 7) (nI (s.2.1 ||| 2 ^ i))) 48 (10 * (d + 1) + 8) (nI i), ?_, hM3, gp_fM.up (gp_fM.up gp_fM.bg)⟩
      simp (disch := omega) only [f_X4_lot, gp_lit, if_true, gp_eq, if_false, show ¬ 3 = 0 by omega, show ¬ 3 = 1 by omega, show ¬ 3 = 2 by omega, hop, Option.bind_some, Nat.one_ne_zero, f_X4_goNow, hM2.1.2.1, pk_mul, nI_add, gp_rd, hM2.1.2.2.1, gp_sh, gp_or, gp_wr, u16]
end GPLO
