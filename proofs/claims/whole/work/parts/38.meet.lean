/-! PURE: meet -/
theorem op_meet {n : Nat} (hn : 5000 ≤ n) {m : gn_M} (h : gp_rel m) (a b : Int32) : ∃ r m1 m2, f_X3_meet n m a b = some (r, m1) ∧ f_X4_meet n m1 a b = some (r, m2) ∧ gp_rel m2 := by
  obtain ⟨g, K, Wt, T0, d, ds, hgf, hdd, hkp⟩ := h.2.2.2
  obtain ⟨s, hs⟩ : ∃ s, s = gp_rp K T0 ds d := ⟨_, rfl⟩
  obtain ⟨o, hC, hM⟩ := gp_curr hgf hdd hs
  have hg := o.g7
  have h7 := gp_p7 hg
  have hd := o.2.1
  rcases gp_gc hC hM hg a with ⟨q1, q2⟩ | ⟨i, hi, rfl, q1, q2⟩
  · exact ⟨-1, m, m, by simp [f_X3_meet, q1, gp_lit], by simp [f_X4_meet, q2, gp_lit], h⟩
  rcases gp_gc hC hM hg b with ⟨q3, q4⟩ | ⟨j, hj, rfl, q3, q4⟩
  · exact ⟨-1, m, m, by simp (disch := omega) [f_X3_meet, q1, q3, gp_lit, gp_eq], by simp (disch := omega) [f_X4_meet, q2, q4, gp_lit, gp_eq], h⟩
  by_cases nij : i = j
  · exact ⟨-1, m, m, by simp (disch := omega) [f_X3_meet, q1, q3, gp_lit, gp_eq, nij], by simp (disch := omega) [f_X4_meet, q2, q4, gp_lit, gp_eq, nij], h⟩
  have e1 := gp_waits hC o (i := i) (by omega)
  have e2 := gp_waits hC o (i := j) (by omega)
  have e3 := gp_thr hM o (i := i) (by omega)
  have e4 := gp_thr hM o (i := j) (by omega)
  have sp := gp_spare hC hd
  by_cases hb : s.2.1.testBit i = true
  · simp only [hb, if_true] at e1 e3
    exact ⟨-4, m, m, by simp (disch := omega) [f_X3_meet, f_X0_canMeet, gp_lit, gp_eq, q1, q3, nij, e1], by simp (disch := omega) [f_X4_meet, gp_lit, gp_eq, q2, q4, nij, e3], h⟩
  simp only [hb] at e1 e3
  by_cases hb2 : s.2.1.testBit j = true
  · simp only [hb2, if_true] at e2 e4
    exact ⟨-4, m, m, by simp (disch := omega) [f_X3_meet, f_X0_canMeet, gp_lit, gp_eq, q1, q3, nij, e1, e2], by simp (disch := omega) [f_X4_meet, gp_lit, gp_eq, q2, q4, nij, e3, e4], h⟩
  simp only [hb2] at e2 e4
  by_cases hd' : d < 40
  · obtain ⟨m1, z1, z2, z3⟩ := gp_addC hC o hd' (w := 1) (i := i) (j := j) hi hj (by decide) (fun q => nij)
    have hM1 := gp_aM hM z3
    have e3' := gp_thr hM1 o (i := i) (by omega)
    have e4' := gp_thr hM1 o (i := j) (by omega)
    simp only [hb] at e3'
    simp only [hb2] at e4'
    have hB := gp_begin hn hd' hM1.1.2.1
    have hM2 := gp_bgM hM1 hg
    have o2 : gp_ok g (d + 1) K Wt s.1 s.2.1 s.2.2.1 s.2.2.2 := ⟨o.1, by omega, o.2.2⟩
    have ti := gp_tellM hM2 o2 hi
    have tj := gp_tellM hM2 o2 hj
    have li := gp_tl_lt (c := K i) (o.2.2.1 i hi).2.2.1 hi
    have lj := gp_tl_lt (c := K j) (o.2.2.1 j hj).2.2.1 hj
    obtain ⟨xi, hxi⟩ : ∃ x, x = s.1 i ||| gp_df (gp_tl (K j) j (s.1 j)) (2 ^ i) := ⟨_, rfl⟩
    obtain ⟨xj, hxj⟩ : ∃ x, x = s.1 j ||| gp_df (gp_tl (K i) i (s.1 i)) (2 ^ j) := ⟨_, rfl⟩
    have t1 := gp_tell4 hn hM2 o2 (i := i) (s := gp_tl (K j) j (s.1 j)) hi (by omega)
    rw [← hxi] at t1
    have hM3 := gp_wT hM2 hg (i := i) (t := xi) hi
    have bi : xi < 2 ^ g ∧ xi.testBit i = false := by
      rw [hxi]
      exact ⟨gp_or_lt (o.2.2.1 i hi).2.2.1 (gp_df_lt lj), gp_or_tb (o.2.2.1 i hi).2.2.2⟩
    have o3 : gp_ok g (d + 1) K Wt (fun x => if x = i then xi else s.1 x) s.2.1 s.2.2.1 s.2.2.2 := ⟨o.1, by omega, fun x hx => by
      by_cases e : x = i
      · simp only [e, if_true]; exact ⟨(o.2.2.1 i hi).1, (o.2.2.1 i hi).2.1, bi⟩
      · simp only [e, if_false]; exact o.2.2.1 x hx, o.2.2.2⟩
    have t2 := gp_tell4 hn hM3 o3 (i := j) (s := gp_tl (K i) i (s.1 i)) hj (by omega)
    simp only [show ¬ j = i from fun e => nij e.symm, if_false] at t2
    rw [← hxj] at t2
    have hM4 := gp_wT hM3 hg (i := j) (t := xj) hj
    have so : gp_so g s := ⟨fun i hi => (o.2.2.1 i hi).2.2, o.2.2.2.1, o.2.2.2.2.2, o.2.2.2.2.1⟩
    have so' := gp_ap_ok (K := K) (w := 1) (i := i) (j := j) so hi hj
    have o4 : gp_ok g (d + 1) K Wt (gp_ap K 1 i j s).1 (gp_ap K 1 i j s).2.1 (gp_ap K 1 i j s).2.2.1 (gp_ap K 1 i j s).2.2.2 := ⟨o.1, by omega, fun i hi => ⟨(o.2.2.1 i hi).1, (o.2.2.1 i hi).2.1, so'.1 i hi⟩, so'.2.1, so'.2.2.2, so'.2.2.1⟩
    have s1 := gp_tls hn hC o
    have s2 := gp_tls hn z2 o4
    have ea : (gp_ap K 1 i j s).1 = fun x => if x = j then xj else (fun x => if x = i then xi else s.1 x) x := by
      unfold gp_ap
      rw [if_pos rfl, hxi, hxj]
    have r1 := (gp_sm_up (T := s.1) (i := i) (t := xi) (g := g)).1 hi
    have r2 := (gp_sm_up (T := fun x => if x = i then xi else s.1 x) (i := j) (t := xj) (g := g)).1 hj
    simp only [show ¬ j = i from fun e => nij e.symm, if_false] at r2
    have sr : nI (gp_sm (gp_ap K 1 i j s).1 g) - nI (gp_sm s.1 g) = nI (gp_po xi) - nI (gp_po (s.1 i)) + (nI (gp_po xj) - nI (gp_po (s.1 j))) := by
      rw [ea]
      have w1 := gp_sub4 r1
      have w2 := gp_sub4 r2
      rw [← w1, ← w2]
      grind
    refine ⟨nI (gp_po xi) - nI (gp_po (s.1 i)) + (nI (gp_po xj) - nI (gp_po (s.1 j))), m1, gn_up (gn_up (gp_bg m1 d) 48 (10 * (d + 1) + i) (nI xi)) 48 (10 * (d + 1) + j) (nI xj), ?_, ?_, ?_⟩
    · rw [← sr]
      simp (disch := omega) [f_X3_meet, f_X0_canMeet, gp_lit, gp_eq, gp_lt, q1, q3, nij, e1, e2, sp, show ¬ 40 - d < 1 by omega, z1, s1, s2]
    · simp (disch := omega) only [f_X4_meet, gp_lit, gp_ig hM1 hg hi, gp_ig hM1 hg hj, Option.bind_some, gp_eq, nij, e3', e4', hM1.1.2.1, if_false, if_true, Bool.false_eq_true, show ¬ d = 40 by omega, hB, Nat.one_ne_zero, f_X4_meetNow, ti, tj, t1, t2]
    · refine gp_deed h hgf hdd hkp hs hd' hi hj (show 1 ≤ 4 by decide) (fun q => nij) rfl z2 z3 ?_ (gp_fM.up (gp_fM.up gp_fM.bg))
      rw [ea]
      exact hM4
  · exact ⟨-2, m, m, by simp (disch := omega) [f_X3_meet, f_X0_canMeet, gp_lit, gp_eq, gp_lt, q1, q3, nij, e1, e2, sp, show 40 - d < 1 by omega], by simp (disch := omega) [f_X4_meet, gp_lit, gp_eq, q2, q4, nij, e3, e4, hM.1.2.1, show d = 40 by omega], h⟩
