/-! PURE: deeds -/
theorem gp_cpself {m : gn_M} {k : Nat} : gn_cp m k 0 k 0 7 = m := by
  unfold gn_cp
  refine Prod.ext ?_ rfl
  funext a b
  dsimp only
  split
  · next e => rw [e]; unfold va_cpy; simp
  · rfl
theorem gp_ac7 {α : Type} {m : gn_M} {k k' : Nat} {K : gn_M → Option α} : gn_ac m k 7 (nI 0) k' 7 (nI 0) (nI 7) K = K (gn_cp m k 0 k' 0 7) := by
  unfold gn_ac
  have e : ¬ (nI 0 < 0 ∨ nI 0 < 0 ∨ nI 7 < 0 ∨ 7 < (nI 0).toNatClampNeg + (nI 7).toNatClampNeg ∨ 7 < (nI 0).toNatClampNeg + (nI 7).toNatClampNeg) := by decide
  rw [if_neg e]
  rfl
def gp_fA (m m' : gn_M) (d c : Nat) : Prop := m'.1 32 d = nI c ∧ (∀ k, k ≠ d → m'.1 32 k = m.1 32 k) ∧ (∀ c, c ≠ 7 → c ≠ 30 → c ≠ 32 → m'.1 c = m.1 c) ∧ m'.2 = m.2
section GPA
variable {m : gn_M} {g d : Nat} {K Wt T : Nat → Nat} {G l S : Nat}
theorem gp_nb (h : gp_cC m g d K Wt T G l S) (hg : g ≤ 7) {i : Nat} (hi : i < g) : f_X0_numbers m (nI i) = some (nI 1) := by
  simp (disch := omega) only [f_X0_numbers, gp_lit, gp_nn, gp_lt, h.1.1, hi, if_true, if_false, Nat.not_lt_zero]
/-- after the deed is written down -/
def gp_m4 (m : gn_M) (d c : Nat) : gn_M := gn_up (gn_up m 32 d (nI c)) 7 7 (nI (d + 1))
theorem gp_m4f {m : gn_M} {d c k : Nat} (h : k ≠ 7) (h' : k ≠ 32) : (gp_m4 m d c).1 k = m.1 k := by
  unfold gp_m4
  rw [gp_une h, gp_une h']
theorem gp_m4g {m : gn_M} {d c j : Nat} (h : j ≠ 7) : (gp_m4 m d c).1 7 j = m.1 7 j := by
  unfold gp_m4
  rw [gp_u, gp_u]
  simp [h]
theorem gp_m4C (h : gp_cC m g d K Wt T G l S) {c : Nat} : gp_cC (gp_m4 m d c) g (d + 1) K Wt T G l S := by
  refine ⟨⟨?_, rfl, ?_, ?_, ?_⟩, fun i hi => ?_, fun c hc => ?_⟩
  · rw [gp_m4g (by decide)]; exact h.1.1
  · rw [gp_m4g (by decide)]; exact h.1.2.2.1
  · rw [gp_m4g (by decide)]; exact h.1.2.2.2.1
  · rw [gp_m4g (by decide)]; exact h.1.2.2.2.2
  · rw [gp_m4f (by decide) (by decide), gp_m4f (by decide) (by decide), gp_m4f (by decide) (by decide)]; exact h.2.1 i hi
  · rw [gp_m4f (by decide) (by decide)]; exact h.2.2 c hc
theorem gp_m4A {m : gn_M} {d c : Nat} : gp_fA m (gp_m4 m d c) d c := by
  refine ⟨by unfold gp_m4; rw [gp_une (by decide), gp_u, if_pos ⟨rfl, rfl⟩], fun k hk => ?_, fun c h7 h30 h32 => gp_m4f h7 h32, rfl⟩
  unfold gp_m4
  rw [gp_une (by decide), gp_u]
  simp [hk]
theorem gp_fA.fr {m m' m'' : gn_M} {d c : Nat} (h : gp_fA m m' d c) (e : ∀ k, k ≠ 7 → k ≠ 30 → m''.1 k = m'.1 k) (e2 : m''.2 = m'.2) : gp_fA m m'' d c := by
  refine ⟨?_, fun k hk => ?_, fun c h7 h30 h32 => ?_, ?_⟩
  · rw [e 32 (by decide) (by decide)]; exact h.1
  · rw [e 32 (by decide) (by decide)]; exact h.2.1 k hk
  · rw [e c h7 h30]; exact h.2.2.1 c h7 h30 h32
  · rw [e2]; exact h.2.2.2
/-- class: a goer is told more -/
theorem gp_upT (h : gp_cC m g d K Wt T G l S) {i t : Nat} : gp_cC (gn_up m 30 i (nI t)) g d K Wt (fun x => if x = i then t else T x) G l S := by
  refine ⟨⟨?_, ?_, ?_, ?_, ?_⟩, fun x hx => ⟨?_, ?_, ?_⟩, fun c hc => ?_⟩
  all_goals (try rw [gp_une (by decide)])
  · exact h.1.1
  · exact h.1.2.1
  · exact h.1.2.2.1
  · exact h.1.2.2.2.1
  · exact h.1.2.2.2.2
  · exact (h.2.1 x hx).1
  · exact (h.2.1 x hx).2.1
  · rw [gp_u]
    by_cases e : x = i
    · simp [e]
    · simp [e, (h.2.1 x hx).2.2]
  · exact h.2.2 c hc
theorem gp_upS (h : gp_cC m g d K Wt T G l S) {s : Nat} : gp_cC (gn_up m 7 10 (nI s)) g d K Wt T G l s := by
  refine ⟨⟨?_, ?_, ?_, ?_, ?_⟩, fun x hx => ?_, fun c hc => ?_⟩
  · rw [gp_u, if_neg (by decide)]; exact h.1.1
  · rw [gp_u, if_neg (by decide)]; exact h.1.2.1
  · rw [gp_u, if_neg (by decide)]; exact h.1.2.2.1
  · rw [gp_u, if_neg (by decide)]; exact h.1.2.2.2.1
  · rw [gp_u, if_pos (by decide)]
  · rw [gp_une (by decide), gp_une (by decide), gp_une (by decide)]; exact h.2.1 x hx
  · rw [gp_une (by decide)]; exact h.2.2 c hc
theorem gp_upG (h : gp_cC m g d K Wt T G l S) {s i : Nat} (hi : i < 7) : gp_cC (gn_up (gn_up m 7 8 (nI s)) 7 9 (nI i)) g d K Wt T s i S := by
  refine ⟨⟨?_, ?_, ?_, ?_, ?_⟩, fun x hx => ?_, fun c hc => ?_⟩
  · rw [gp_u, if_neg (by decide), gp_u, if_neg (by decide)]; exact h.1.1
  · rw [gp_u, if_neg (by decide), gp_u, if_neg (by decide)]; exact h.1.2.1
  · rw [gp_u, if_neg (by decide), gp_u, if_pos (by decide)]
  · rw [gp_u, if_pos (by decide), gp_lI, if_pos hi]
  · rw [gp_u, if_neg (by decide), gp_u, if_neg (by decide)]; exact h.1.2.2.2.2
  · rw [gp_une (by decide), gp_une (by decide), gp_une (by decide), gp_une (by decide), gp_une (by decide), gp_une (by decide)]; exact h.2.1 x hx
  · rw [gp_une (by decide), gp_une (by decide)]; exact h.2.2 c hc
theorem gp_add0 (h : gp_cC m g d K Wt T G l S) (hg : g ≤ 7) (hd : d < 40) {w i j : Nat} (hi : i < g) (hj : j < g) (hw : w ≤ 4) : f_X0_add m (nI w) (nI i) (nI j) = (fun M : gn_M => if w = 1 then f_X0_meetAside M (nI i) (nI j) 30 30 else if w = 2 then (f_X0_tellingOf M (nI i)).bind (fun x => some (gn_up M 7 10 (M.1 7 10 ||| x))) else if w = 3 then some (gn_up M 30 i (M.1 30 i ||| (M.1 7 10 &&& (nI (2 ^ i) ^^^ -nI 1)))) else if w = 4 then some (gn_up (gn_up M 7 8 (M.1 7 8 ||| nI (2 ^ i))) 7 9 (nI i)) else some M) (gp_m4 m d (100 * w + 10 * i + j)) := by
  have e0 : gn_up (gn_up m 32 d (nI (100 * w + 10 * i + j))) 7 7 (nI (d + 1)) = gp_m4 m d (100 * w + 10 * i + j) := rfl
  have e00 : (gn_up m 32 d (nI (100 * w + 10 * i + j))).1 7 7 = nI d := by rw [gp_une (by decide)]; exact h.1.2.1
  have b : ∀ (x : Option gn_M), x.bind (fun y => some y) = x := fun x => by cases x <;> rfl
  simp (disch := omega) only [f_X0_add, gp_lit, gp_lt, gp_eq, h.1.2.1, hd, if_true, if_false, gp_nb h hg hi, gp_nb h hg hj, Option.bind_some, pk_mul, nI_add, gp_wr, gp_pf, e00, Nat.one_ne_zero, e0, b, gp_rd, gp_sh]
theorem gp_addC (h : gp_cC m g d K Wt T G l S) (o : gp_ok g d K Wt T G l S) (hd : d < 40) {w i j : Nat} (hi : i < g) (hj : j < g) (hw : w ≤ 4) (hij : w = 1 → i ≠ j) : ∃ m', f_X0_add m (nI w) (nI i) (nI j) = some m' ∧ gp_cC m' g (d + 1) K Wt (gp_ap K w i j (T, G, l, S)).1 (gp_ap K w i j (T, G, l, S)).2.1 (gp_ap K w i j (T, G, l, S)).2.2.1 (gp_ap K w i j (T, G, l, S)).2.2.2 ∧ gp_fA m m' d (100 * w + 10 * i + j) := by
  have hg := o.g7
  have h4 := gp_m4C h (c := 100 * w + 10 * i + j)
  have hA := gp_m4A (m := m) (d := d) (c := 100 * w + 10 * i + j)
  rw [gp_add0 h hg hd hi hj hw]
  have o4 : gp_ok g (d + 1) K Wt T G l S := ⟨o.1, by omega, o.2.2⟩
  generalize gp_m4 m d (100 * w + 10 * i + j) = M at h4 hA ⊢
  dsimp only
  have oi := o.2.2.1 i hi
  have oj := o.2.2.1 j hj
  have ei := h4.2.1 i hi
  have ej := h4.2.1 j hj
  unfold gp_ap
  by_cases w1 : w = 1
  · have nij := hij w1
    rw [if_pos w1]
    refine ⟨gn_up (gn_up M 30 i (nI (T i ||| gp_df (gp_tl (K j) j (T j)) (2 ^ i)))) 30 j (nI (T j ||| gp_df (gp_tl (K i) i (T i)) (2 ^ j))), ?_, ?_, ?_⟩
    · simp (disch := omega) only [f_X0_meetAside, gp_lit, gp_rd, ei.1, ei.2.2, ej.1, ej.2.2, gp_tA oi.1, gp_tA oj.1, Option.bind_some, gp_ac7, gp_cpself, gp_sh, gp_nt, gp_or, gp_wr]
      rw [show (gn_up M 30 i (nI (T i ||| gp_df (gp_tl (K j) j (T j)) (2 ^ i)))).1 30 j = nI (T j) by rw [gp_u]; simp [ej.2.2, Ne.symm nij]]
      rw [gp_or]
    · simp only [w1, if_true]
      exact gp_upT (gp_upT h4)
    · exact hA.fr (fun k h7 h30 => by rw [gp_une h30, gp_une h30]) rfl
  · rw [if_neg w1]
    by_cases w2 : w = 2
    · rw [if_pos w2, gp_tellC h4 o4 hi]
      refine ⟨_, rfl, ?_, ?_⟩
      · rw [h4.1.2.2.2.2, gp_or]
        simp only [w1, w2, if_true, if_false]
        exact gp_upS h4
      · exact hA.fr (fun k h7 h30 => by rw [gp_une h7]) rfl
    · rw [if_neg w2]
      by_cases w3 : w = 3
      · rw [if_pos w3]
        refine ⟨_, rfl, ?_, ?_⟩
        · rw [ei.2.2, h4.1.2.2.2.2, gp_nt, gp_or]
          simp only [w1, w2, w3, if_true, if_false]
          exact gp_upT h4
        · exact hA.fr (fun k h7 h30 => by rw [gp_une h30]) rfl
      · rw [if_neg w3]
        by_cases w4 : w = 4
        · rw [if_pos w4]
          refine ⟨_, rfl, ?_, ?_⟩
          · rw [h4.1.2.2.1, gp_or]
            simp only [w1, w2, w3, w4, if_true, if_false]
            exact gp_upG h4 (by omega)
          · exact hA.fr (fun k h7 h30 => by rw [gp_une h7, gp_une h7]) rfl
        · rw [if_neg w4]
          refine ⟨_, rfl, ?_, hA⟩
          simp only [w1, w2, w3, w4, if_true, if_false]
          exact h4
end GPA
