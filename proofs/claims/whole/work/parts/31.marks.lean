/-! PURE: last, mark, the plain answers -/
section GPL
variable {m : gn_M} {g d : Nat} {K Wt T : Nat → Nat} {G l S : Nat}
/-- those to whom it would be open, had one gone last -/
def gp_ol (g : Nat) (K T : Nat → Nat) (G x : Nat) : Nat := gp_bs1 (fun i => !(decide (i = x)) && (!G.testBit i && (gp_nm g K i (T i)).testBit x)) g
theorem gp_olC {x : Nat} (hx : x < g) : gp_df (gp_bs1 (fun j => (gp_nm g K j (T j)).testBit x) g &&& gp_lf g G) (2 ^ x) = gp_ol g K T G x := by
  apply Nat.eq_of_testBit_eq
  intro i
  unfold gp_ol
  rw [gp_df_tb, Nat.testBit_and, gp_bs1_tb, gp_bs1_tb, gp_lf_tb, Nat.testBit_two_pow]
  by_cases e : i < g
  · by_cases e2 : x = i
    · subst e2; simp
    · have e3 : ¬ i = x := fun q => e2 q.symm
      simp [e, e2, e3]
      cases (gp_nm g K i (T i)).testBit x <;> cases G.testBit i <;> rfl
  · simp [e]
end GPL
theorem op_last {n : Nat} (hn : 5000 ≤ n) {m : gn_M} (h : gp_rel m) (a : Int32) : ∃ r, f_X3_last n m a = some r ∧ f_X4_last n m a = some r := by
  obtain ⟨g, d, K, Wt, T, G, l, S, o, hC, hM⟩ := h.2.2.2.now
  have hg := o.g7
  have h7 := gp_p7 hg
  rcases gp_sc (d := d) (K := K) (Wt := Wt) (T := T) (G := G) (l := l) (S := S) hg a with ⟨p1, p2⟩ | ⟨s, hs, rfl⟩
  · exact ⟨-1, by simp [f_X3_last, p1 m hC, gp_lit], by simp [f_X4_last, p2 m hM, gp_lit]⟩
  · have q1 := gp_hS hC hg hs
    have q2 := gp_iS hM hg hs
    have eC := hC.1.1
    have eM := hM.1.1
    by_cases h0 : g = 0
    · subst h0
      exact ⟨-4, by simp (disch := omega) [f_X3_last, q1, gp_lit, gp_eq, eC], by simp (disch := omega) [f_X4_last, q2, gp_lit, gp_eq, eM]⟩
    · refine ⟨nI (gp_bs1 (fun x => decide (gp_ol g K T G x = s)) g), ?_, ?_⟩
      · have lp : L_X3_last_30 n m (nI s) (fun e4 => some e4) n 0 0 = some (nI (gp_bs1 (fun x => decide (gp_ol g K T G x = s)) g)) := by
          refine gp_lp0 (Lf := fun f j (acc : Int32) => L_X3_last_30 n m (nI s) (fun e => some e) f acc (nI j)) (N := g) (A := fun j => nI (gp_bs1 (fun x => decide (gp_ol g K T G x = s)) j)) (fun f j hj => ?_) (fun f => ?_) (by omega)
          · show L_X3_last_30 n m (nI s) _ (f + 1) _ (nI j) = _
            rw [L_X3_last_30]
            have e1 := gp_namC hn hC o (i := j) (by omega)
            have e2 := gp_leftC hC hg
            have e3 := gp_olC (K := K) (T := T) (G := G) hj
            have b : gp_ol g K T G j < 2 ^ g := gp_bs1_lt _ _
            simp (disch := omega) only [gp_lit, eC, gp_lt, hj, if_true, e1, e2, gp_bs, gp_sh, gp_sh2, gp_and, gp_nt, e3, gp_eq, nI_add, gp_or, gp_bs1]
            by_cases hb : gp_ol g K T G j = s <;> simp [hb]
          · show L_X3_last_30 n m (nI s) _ (f + 1) _ (nI g) = _
            rw [L_X3_last_30]
            simp (disch := omega) [eC, gp_lt]
        simp (disch := omega) [f_X3_last, q1, gp_lit, gp_eq, eC, h0]
        exact lp
      · have lp : L_X4_last_24 n m (nI s) (fun e6 => some e6) n 0 0 = some (nI (gp_bs1 (fun x => decide (gp_ol g K T G x = s)) g)) := by
          refine gp_lp0 (Lf := fun f j (acc : Int32) => L_X4_last_24 n m (nI s) (fun e => some e) f acc (nI j)) (N := g) (A := fun j => nI (gp_bs1 (fun x => decide (gp_ol g K T G x = s)) j)) (fun f j hj => ?_) (fun f => ?_) (by omega)
          · show L_X4_last_24 n m (nI s) _ (f + 1) _ (nI j) = _
            rw [L_X4_last_24]
            have inner : ∀ (v : Int32) (k : Int32 → Option Int32), L_X4_last_38 n m (nI s) v (nI j) k n 0 0 = k (nI (gp_ol g K T G j)) := by
              intro v k
              refine gp_lp0 (Lf := fun f i (acc : Int32) => L_X4_last_38 n m (nI s) v (nI j) k f acc (nI i)) (N := g) (A := fun i => nI (gp_bs1 (fun i => !(decide (i = j)) && (!G.testBit i && (gp_nm g K i (T i)).testBit j)) i)) (fun f i hi => ?_) (fun f => ?_) (by omega)
              · show L_X4_last_38 n m (nI s) v (nI j) k (f + 1) _ (nI i) = _
                rw [L_X4_last_38]
                have e1 := gp_thr hM o (i := i) (by omega)
                have e2 := gp_namesOf hn hM o hi
                have b := gp_nm_lt (g := g) (K := K) (i := i) (t := T i) hi (o.2.2.1 i hi).2.2.1
                simp (disch := omega) only [gp_lit, eM, gp_lt, hi, if_true, e1, e2, gp_bs, gp_has, gp_ite1, gp_eq, gp_sh, nI_add, gp_or, gp_bs1, Nat.or_zero]
                by_cases z1 : i = j
                · simp [z1]
                · by_cases z2 : G.testBit i = true
                  · simp [z1, z2]
                  · by_cases z3 : (gp_nm g K i (T i)).testBit j = true <;> simp [z1, z2, z3]
              · show L_X4_last_38 n m (nI s) v (nI j) k (f + 1) _ (nI g) = _
                rw [L_X4_last_38]
                simp (disch := omega) only [eM, gp_lt, Nat.lt_irrefl, if_false]
                rfl
            have b : gp_ol g K T G j < 2 ^ g := gp_bs1_lt _ _
            simp (disch := omega) only [gp_lit, eM, gp_lt, hj, if_true]
            rw [show nI 0 = (0 : Int32) from rfl, inner]
            simp (disch := omega) only [gp_lit, gp_eq, gp_sh, nI_add, gp_or, gp_bs1, Nat.or_zero]
            by_cases hb : gp_ol g K T G j = s <;> simp [hb]
          · show L_X4_last_24 n m (nI s) _ (f + 1) _ (nI g) = _
            rw [L_X4_last_24]
            simp (disch := omega) [eM, gp_lt]
        simp (disch := omega) [f_X4_last, q2, gp_lit, gp_eq, eM, h0]
        exact lp
theorem op_asked {m : gn_M} (h : gp_rel m) : ∃ r, f_X3_asked m = some r ∧ f_X4_asked m = some r := ⟨m.1 0 10, rfl, by show some (m.1 38 2) = _; rw [h.2.2.1.2.1]⟩
theorem op_upper {m : gn_M} (h : gp_rel m) : ∃ r, f_X3_upper m = some r ∧ f_X4_upper m = some r := ⟨m.2 0 11, rfl, by show some (m.2 38 3) = _; rw [h.2.2.1.2.2.1]⟩
theorem op_lower {m : gn_M} (h : gp_rel m) : ∃ r, f_X3_lower m = some r ∧ f_X4_lower m = some r := ⟨m.2 0 12, rfl, by show some (m.2 38 4) = _; rw [h.2.2.1.2.2.2.1]⟩
theorem op_finding {m : gn_M} (h : gp_rel m) : ∃ r, f_X3_finding m = some r ∧ f_X4_finding m = some r := ⟨m.1 0 9, rfl, by show some (m.1 38 0) = _; rw [h.2.2.1.1]⟩
theorem op_findings {m : gn_M} (h : gp_rel m) (a : Int32) : ∃ r, f_X3_findings m a = some r ∧ f_X4_findings m a = some r := by
  by_cases c1 : a < nI 1
  · exact ⟨-1, by simp [f_X3_findings, gp_lit, c1], by simp [f_X4_findings, f_X4_in, gp_lit, c1]⟩
  · by_cases c2 : nI 5 < a
    · exact ⟨-1, by simp [f_X3_findings, gp_lit, c1, c2], by simp [f_X4_findings, f_X4_in, gp_lit, c1, c2]⟩
    · have c3 : ¬ a < 0 := fun q => c1 (Int32.lt_trans q (by decide))
      obtain ⟨f, hf, rfl⟩ := nI_of c3
      have hf5 : f ≤ 5 := by
        rw [gp_lt (by decide) (by omega)] at c2
        omega
      exact ⟨m.1 26 f, by simp (disch := omega) [f_X3_findings, gp_lit, c1, c2, gp_rd], by simp (disch := omega) [f_X4_findings, f_X4_in, gp_lit, gp_eq, c1, c2, gp_rd, h.2.2.1.2.2.2.2 f (by omega)]⟩
