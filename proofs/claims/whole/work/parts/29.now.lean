/-! PURE: the gate as it is now, out of what stands; goer, tells -/
def gp_so (g : Nat) (s : gp_St) : Prop := (∀ i, i < g → s.1 i < 2 ^ g ∧ (s.1 i).testBit i = false) ∧ s.2.1 < 2 ^ g ∧ (s.2.2.1 < g ∨ s.2.2.1 = 7) ∧ s.2.2.2 < 2 ^ g
theorem gp_or_tb {a b i : Nat} (ha : a.testBit i = false) : (a ||| gp_df b (2 ^ i)).testBit i = false := by
  rw [Nat.testBit_or, ha, gp_df_tb, Nat.testBit_two_pow_self]
  simp
theorem gp_ap_ok {g : Nat} {K : Nat → Nat} {w i j : Nat} {s : gp_St} (h : gp_so g s) (hi : i < g) (hj : j < g) : gp_so g (gp_ap K w i j s) := by
  obtain ⟨h1, h2, h3, h4⟩ := h
  unfold gp_ap
  split
  · refine ⟨fun x hx => ?_, h2, h3, h4⟩
    dsimp only
    split
    · exact ⟨gp_or_lt (h1 j hj).1 (gp_df_lt (gp_tl_lt (h1 i hi).1 hi)), by next e => rw [e]; exact gp_or_tb (h1 j hj).2⟩
    · split
      · exact ⟨gp_or_lt (h1 i hi).1 (gp_df_lt (gp_tl_lt (h1 j hj).1 hj)), by next e => rw [e]; exact gp_or_tb (h1 i hi).2⟩
      · exact h1 x hx
  · split
    · exact ⟨h1, h2, h3, gp_or_lt h4 (gp_tl_lt (h1 i hi).1 hi)⟩
    · split
      · refine ⟨fun x hx => ?_, h2, h3, h4⟩
        dsimp only
        split
        · exact ⟨gp_or_lt (h1 i hi).1 (gp_df_lt h4), by next e => rw [e]; exact gp_or_tb (h1 i hi).2⟩
        · exact h1 x hx
      · split
        · exact ⟨h1, gp_or_lt h2 (gp_2_lt hi), Or.inl hi, h4⟩
        · exact ⟨h1, h2, h3, h4⟩
theorem gp_rp_ok {g n : Nat} {K T0 : Nat → Nat} {ds : Nat → Nat} (h0 : ∀ i, i < g → T0 i < 2 ^ g ∧ (T0 i).testBit i = false) (hd : ∀ k, k < n → gp_vd g (ds k)) : ∀ k, k ≤ n → gp_so g (gp_rp K T0 ds k)
  | 0, _ => ⟨h0, Nat.two_pow_pos g, Or.inr rfl, Nat.two_pow_pos g⟩
  | k + 1, hk => gp_ap_ok (gp_rp_ok h0 hd k (by omega)) (hd k (by omega)).2.1 (hd k (by omega)).2.2.1
/-- what now stands, for both -/
theorem gp_gate.now {m : gn_M} (h : gp_gate m) : ∃ (g d : Nat) (K Wt T : Nat → Nat) (G l S : Nat), gp_ok g d K Wt T G l S ∧ gp_cC m g d K Wt T G l S ∧ gp_cM m g d K Wt T G l S := by
  obtain ⟨g, K, Wt, T0, d, ds, ⟨a1, a2, a3, a4, a5⟩, ⟨b1, b2, b3, b4, b5, b6, b7⟩, -⟩ := h
  have so := gp_rp_ok (K := K) (T0 := T0) (ds := ds) (n := d) (fun i hi => ⟨(a4 i hi).2.2.2.2.2.2.1, (a4 i hi).2.2.2.2.2.2.2.1⟩) (fun k hk => (b5 k hk).1) d (Nat.le_refl _)
  have c6 := b7 d (Nat.le_refl _)
  have hg : g ≤ 7 := by rcases a1 with q | q <;> omega
  refine ⟨g, d, K, Wt, (gp_rp K T0 ds d).1, (gp_rp K T0 ds d).2.1, (gp_rp K T0 ds d).2.2.1, (gp_rp K T0 ds d).2.2.2, ⟨a1, b1, fun i hi => ⟨(a4 i hi).1, (a4 i hi).2.2.2.1, so.1 i hi⟩, so.2.1, so.2.2.2, so.2.2.1⟩, ⟨⟨a2, b3, ?_, ?_, ?_⟩, fun i hi => ⟨(a4 i hi).2.1, (a4 i hi).2.2.2.2.1, ?_⟩, a5⟩, ⟨⟨a3, b4, c6.2.1, c6.2.2.1, c6.2.2.2⟩, fun i hi => ⟨(a4 i hi).2.2.1, (a4 i hi).2.2.2.2.2.1, c6.1 i hi⟩⟩⟩
  · have := b6.2.1; simpa using this
  · have := b6.2.2.1; simpa using this
  · have := b6.2.2.2; simpa using this
  · have := b6.1 i hi
    simpa [show i < 7 by omega] using this
section GPN
variable {m m' : gn_M} {g d : Nat} {K Wt T : Nat → Nat} {G l S : Nat}
theorem gp_cM.fr (h : gp_cM m g d K Wt T G l S) (h1 : m'.1 38 10 = m.1 38 10) (h2 : m'.1 38 16 = m.1 38 16) (h45 : m'.1 45 = m.1 45) (h46 : m'.1 46 = m.1 46) (h48 : m'.1 48 = m.1 48) : gp_cM m' g d K Wt T G l S := by
  unfold gp_cM
  rw [h1, h2, h45, h46, h48]
  exact h
theorem gp_cC.fr (h : gp_cC m g d K Wt T G l S) (h7 : m'.1 7 = m.1 7) (h27 : m'.1 27 = m.1 27) (h28 : m'.1 28 = m.1 28) (h30 : m'.1 30 = m.1 30) (h31 : m'.1 31 = m.1 31) : gp_cC m' g d K Wt T G l S := by
  unfold gp_cC
  rw [h7, h27, h28, h30, h31]
  exact h
theorem gp_ok.g7 (o : gp_ok g d K Wt T G l S) : g ≤ 7 := by rcases o.1 with q | q <;> omega
theorem gp_tellC (h : gp_cC m g d K Wt T G l S) (o : gp_ok g d K Wt T G l S) {i : Nat} (hi : i < g) : f_X0_tellingOf m (nI i) = some (nI (gp_tl (K i) i (T i))) := by
  have := o.g7
  simp (disch := omega) only [f_X0_tellingOf, gp_rd, (h.2.1 i hi).1, (h.2.1 i hi).2.2, gp_tA (o.2.2.1 i hi).1, gp_bs]
theorem gp_tellM (h : gp_cM m g d K Wt T G l S) (o : gp_ok g d K Wt T G l S) {i : Nat} (hi : i < g) : f_X4_tellsOf m (nI i) = some (nI (gp_tl (K i) i (T i))) := by
  have := o.g7
  simp (disch := omega) only [f_X4_tellsOf, gp_rd, (h.2 i hi).1, gp_toldM h o.g7 o.2.1 hi, gp_tB (o.2.2.1 i hi).1, gp_bs]
/-- a goer's trait, for both -/
def gp_ft (g : Nat) (K Wt T : Nat → Nat) (G l : Nat) (i w : Nat) : Nat := if w = 0 then K i else if w = 1 then Wt i else if w = 2 then T i else if w = 3 then gp_tl (K i) i (T i) else if w = 4 then gp_nm g K i (T i) else if w = 5 then (if G.testBit i then 1 else 0) else if gp_op g K T G l i then 1 else 0
theorem gp_ftC (h : gp_cC m g d K Wt T G l S) (o : gp_ok g d K Wt T G l S) {i w : Nat} (hi : i < g) (hw : w < 7) : f_X3_traitOf m (nI i) (nI w) = some (nI (gp_ft g K Wt T G l i w)) := by
  have hg := o.g7
  have e := h.2.1 i hi
  have e3 := gp_tellC h o hi
  have e4 := gp_naming h hg (k := 30) (i := i) (by omega) e.2.2
  have e5 := gp_waits h o (i := i) (by omega)
  have e6 := gp_opC h o hi
  rcases (show w = 0 ∨ w = 1 ∨ w = 2 ∨ w = 3 ∨ w = 4 ∨ w = 5 ∨ w = 6 by omega) with rfl | rfl | rfl | rfl | rfl | rfl | rfl
  · simp (disch := omega) [f_X3_traitOf, gp_lit, gp_ft, gp_rd, e.1]
  · simp (disch := omega) [f_X3_traitOf, gp_lit, gp_eq, gp_ft, gp_rd, e.2.1]
  · simp (disch := omega) [f_X3_traitOf, gp_lit, gp_eq, gp_ft, gp_rd, e.2.2]
  · simp (disch := omega) [f_X3_traitOf, gp_lit, gp_eq, gp_ft, e3]
  · simp (disch := omega) [f_X3_traitOf, gp_lit, gp_eq, gp_ft, e4]
  · cases hb : G.testBit i <;> simp (disch := omega) [f_X3_traitOf, gp_lit, gp_eq, gp_ft, e5, hb]
  · cases hb : gp_op g K T G l i <;> simp (disch := omega) [f_X3_traitOf, gp_lit, gp_eq, gp_ft, e6, hb]
theorem gp_ftM {n : Nat} (hn : 5000 ≤ n) (h : gp_cM m g d K Wt T G l S) (o : gp_ok g d K Wt T G l S) {i w : Nat} (hi : i < g) (hw : w < 7) : f_X4_factOf n m (nI i) (nI w) = some (nI (gp_ft g K Wt T G l i w)) := by
  have hg := o.g7
  have e := h.2 i hi
  have e2 := gp_toldM h hg o.2.1 hi
  have e3 := gp_tellM h o hi
  have e4 := gp_namesOf hn h o hi
  have e5 := gp_thr h o (i := i) (by omega)
  have e6 := gp_opM hn h o hi
  rcases (show w = 0 ∨ w = 1 ∨ w = 2 ∨ w = 3 ∨ w = 4 ∨ w = 5 ∨ w = 6 by omega) with rfl | rfl | rfl | rfl | rfl | rfl | rfl
  · simp (disch := omega) [f_X4_factOf, gp_lit, gp_ft, gp_rd, e.1]
  · simp (disch := omega) [f_X4_factOf, gp_lit, gp_eq, gp_ft, gp_rd, e.2.1]
  · simp (disch := omega) [f_X4_factOf, gp_lit, gp_eq, gp_ft, e2]
  · simp (disch := omega) [f_X4_factOf, gp_lit, gp_eq, gp_ft, e3]
  · simp (disch := omega) [f_X4_factOf, gp_lit, gp_eq, gp_ft, e4]
  · cases hb : G.testBit i <;> simp (disch := omega) [f_X4_factOf, gp_lit, gp_eq, gp_ft, e5, hb]
  · cases hb : gp_op g K T G l i <;> simp (disch := omega) [f_X4_factOf, gp_lit, gp_eq, gp_ft, e6, hb]
end GPN
/-- both tell a number -/
theorem gp_rel_told {m : gn_M} (h : gp_rel m) (v : Int32) : gp_rel (gn_up (gn_up m 0 10 v) 38 2 v) := by
  obtain ⟨h1, h2, h3, h4⟩ := h
  refine ⟨h1.fr (fun k hk => ?_), h2.fr (fun k hk => ?_), h3.told (v := v) rfl rfl rfl rfl rfl rfl rfl, h4.fr (fun k hk => ?_) rfl rfl⟩
  all_goals simp (disch := omega) only [gp_une]
theorem gp_tC {m : gn_M} {v : Int32} : f_X3_toldByAsked m v = some (1, gn_up m 0 10 v) := rfl
theorem gp_tM {m : gn_M} {v : Int32} : f_X4_told m v = some (1, gn_up m 38 2 v) := rfl
theorem op_goer {n : Nat} (hn : 5000 ≤ n) {m : gn_M} (h : gp_rel m) (a b : Int32) : ∃ r m1 m2, f_X3_goer m a b = some (r, m1) ∧ f_X4_goer n m1 a b = some (r, m2) ∧ gp_rel m2 := by
  obtain ⟨g, d, K, Wt, T, G, l, S, o, hC, hM⟩ := h.2.2.2.now
  have hg := o.g7
  rcases gp_gc hC hM hg a with ⟨q1, q2⟩ | ⟨i, hi, rfl, q1, -⟩
  · exact ⟨-1, m, m, by simp [f_X3_goer, q1, gp_lit], by simp [f_X4_goer, q2, gp_lit], h⟩
  · rcases gp_ix b 7 (by decide) with q | ⟨w, hw, rfl⟩ | ⟨p1, p2⟩
    · have q : b < nI 0 := q
      have q2 := (gp_gc hC hM hg (nI i))
      rcases q2 with ⟨z1, -⟩ | ⟨i', hi', e, -, z2⟩
      · rw [z1] at q1; simp (disch := omega) [gp_eq] at q1
      · rw [gp_eq (by omega) (by omega)] at e
        subst e
        exact ⟨-1, m, m, by simp (disch := omega) [f_X3_goer, q1, gp_lit, gp_eq, q], by simp (disch := omega) [f_X4_goer, f_X4_in, z2, gp_lit, gp_eq, q], h⟩
    · obtain ⟨v, hv⟩ : ∃ v, v = nI (gp_ft g K Wt T G l i w) := ⟨_, rfl⟩
      have hM' : gp_cM (gn_up m 0 10 v) g d K Wt T G l S := hM.fr rfl rfl rfl rfl rfl
      rcases gp_gc hC hM' hg (nI i) with ⟨z1, -⟩ | ⟨i', hi', e, -, z2⟩
      · rw [z1] at q1; simp (disch := omega) [gp_eq] at q1
      · rw [gp_eq (by omega) (by omega)] at e
        subst e
        have e1 := gp_ftC hC o hi hw
        have e2 := gp_ftM hn hM' o hi hw
        rw [← hv] at e1 e2
        refine ⟨1, gn_up m 0 10 v, gn_up (gn_up m 0 10 v) 38 2 v, ?_, ?_, gp_rel_told h v⟩
        · simp (disch := omega) [f_X3_goer, q1, gp_lit, gp_eq, gp_lt, hw, e1, gp_tC]
        · simp (disch := omega) [f_X4_goer, f_X4_in, z2, gp_lit, gp_eq, gp_lt, show ¬ 6 < w by omega, e2, gp_tM]
    · have p1' : ¬ b < nI 0 := p1
      have p2' : ¬ b < nI 7 := p2
      have p3 : nI 6 < b := by
        obtain ⟨j, hj, rfl⟩ := nI_of p1
        rw [gp_lt (by omega) (by omega)] at p2 ⊢
        omega
      rcases gp_gc hC hM hg (nI i) with ⟨z1, -⟩ | ⟨i', hi', e, -, z2⟩
      · rw [z1] at q1; simp (disch := omega) [gp_eq] at q1
      · rw [gp_eq (by omega) (by omega)] at e
        subst e
        exact ⟨-1, m, m, by simp (disch := omega) [f_X3_goer, q1, gp_lit, gp_eq, p1', p2'], by simp (disch := omega) [f_X4_goer, f_X4_in, z2, gp_lit, gp_eq, p1', p3], h⟩
