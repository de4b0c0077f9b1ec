/-! PURE: the reference's ways -/
theorem gp_su_ex {f : Nat → Nat} {n : Nat} : ∀ k, (∀ i, n ≤ i → i < n + k → f i = 0) → gp_su f (n + k) = gp_su f n
  | 0, _ => rfl
  | k + 1, e => by
    rw [← Nat.add_assoc, gp_su, gp_su_ex k (fun i h1 h2 => e i h1 (by omega)), e (n + k) (by omega) (by omega), Nat.add_zero]
def gp_pv (g : Nat) (A : Nat → Nat → Bool) (T l P : Nat) : Nat := if T.testBit l = true then (if gp_df T (2 ^ l) = 0 then (if A 7 l then 1 else 0) else gp_su (fun p => if A p l then gp_Q g A (gp_df T (2 ^ l)) 7 p else 0) P) else 0
def gp_Ps (g s p r : Nat) : Nat := if r < s then g else if r = s then p else 0
theorem gp_bit_ne {s t : Nat} (h : s.testBit t = true) : s ≠ 0 := by
  intro e
  rw [e, Nat.zero_testBit] at h
  cases h
section GPW
variable {m m' : gn_M} {g d : Nat} {K Wt T : Nat → Nat} {G l S : Nat} {nm : Nat → Nat} {A : Nat → Nat → Bool}
theorem gp_pvQ (hg : g ≤ 7) {t x : Nat} (ht : t < 2 ^ g) (h0 : t ≠ 0) (hx : x < g) : gp_pv g A t x g = gp_Q g A t 7 x := by
  unfold gp_pv
  by_cases hb : t.testBit x = true
  · rw [if_pos hb, gp_Qb t 7 ht (by decide) hg hb]
    by_cases hz : gp_df t (2 ^ x) = 0
    · rw [if_pos hz, hz, gp_su_one (a := 7) (by decide), gp_Q0, if_pos rfl]
      intro p hp hne
      have e0 : ¬ 7 = p := fun e => hne e.symm
      simp only [gp_Q0, e0, if_false]
      split <;> rfl
    · rw [if_neg hz]
      obtain ⟨k, hk⟩ : ∃ k, 8 = g + k := ⟨8 - g, by omega⟩
      rw [hk, gp_su_ex k (fun i h1 h2 => ?_)]
      rw [gp_Qz _ _ hz]
      · split <;> rfl
      · cases hq : (gp_df t (2 ^ x)).testBit i
        · rfl
        · have := gp_tb_lt (gp_df_lt ht) hq
          omega
  · rw [if_neg hb, gp_Qz _ _ h0 (by simpa using hb)]
def gp_nM (m : gn_M) (g : Nat) (nm : Nat → Nat) : Prop := ∀ j, j < g → m.1 51 j = nI (nm j) ∧ nm j < 2 ^ g
theorem gp_tnL {n : Nat} (hn : 5000 ≤ n) (hM : gp_cM m g d K Wt T G l S) (o : gp_ok g d K Wt T G l S) : ∃ m', f_X4_tellNames n m = some m' ∧ gp_f1 51 m m' ∧ gp_nM m' g (fun j => gp_nm g K j (T j)) := by
  have hg := o.g7
  have h7 := gp_p7 hg
  have key := gp_li (Lf := fun f i m => L_X4_tellNames_2 n (fun m3 => some m3) f (nI i) m) (N := g) (I := fun i m' => gp_f1 51 m m' ∧ ∀ x, x < i → m'.1 51 x = nI (gp_nm g K x (T x))) (kk := fun m => some m) (fun f i m' hi hI => ?_) (fun f m' hI => ?_) g 0 n m (by omega) (by omega) ⟨gp_f1.rfl', fun x hx => by omega⟩
  · obtain ⟨m', ⟨i1, i2⟩, e⟩ := key
    exact ⟨m', e, i1, fun j hj => ⟨i2 j hj, gp_nm_lt hj (o.2.2.1 j hj).2.2.1⟩⟩
  · have hM' := (hI.1.sf (by omega)).cM hM
    have en := gp_namesOf hn hM' o hi
    refine ⟨gn_up m' 51 i (nI (gp_nm g K i (T i))), ⟨hI.1.up, fun x hx => ?_⟩, ?_⟩
    · rw [gp_u]
      by_cases q : x = i
      · rw [if_pos ⟨rfl, q⟩, q]
      · rw [if_neg (by omega)]
        exact hI.2 x (by omega)
    · show L_X4_tellNames_2 n _ (f + 1) (nI i) m' = _
      rw [L_X4_tellNames_2]
      simp (disch := omega) only [hM'.1.1, gp_lt, hi, if_true, en, Option.bind_some, gp_wr, gp_lit, nI_add]
  · show L_X4_tellNames_2 n _ (f + 1) (nI g) m' = _
    rw [L_X4_tellNames_2]
    have hM' := (hI.1.sf (by omega)).cM hM
    simp (disch := omega) only [hM'.1.1, gp_lt, Nat.lt_irrefl, if_false]
theorem gp_mgL (hM : gp_cM m g d K Wt T G l S) (o : gp_ok g d K Wt T G l S) (hN : gp_nM m g nm) {p j : Nat} (hp : p ≤ 7) (hj : j < g) : f_X4_mayGo m (nI p) (nI j) = some (if gp_mg l nm p j then nI 1 else nI 0) := by
  have hg := o.g7
  have h7 := gp_p7 hg
  obtain ⟨e51, hlt⟩ := hN j hj
  unfold gp_mg
  by_cases hp7 : p = 7
  · subst hp7
    have e3 := gp_now hM o.2.1 (j := 8) (by decide)
    rw [hM.1.2.2.2.1] at e3
    rcases o.2.2.2.2.2 with hl | hl
    · have e4 := gp_has (s := nm j) (i := l) (by omega) (by omega)
      rw [gp_lI7 (by omega)] at e3
      cases hb : (nm j).testBit l <;> simp (disch := omega) [f_X4_mayGo, gp_lit, gp_lt, e3, gp_lIne, gp_rd, e51, e4, hb, gp_eq, show ¬ l = 7 by omega]
    · subst hl
      rw [gp_lI9] at e3
      simp (disch := omega) [f_X4_mayGo, gp_lit, gp_lt, e3]
  · have e4 := gp_has (s := nm j) (i := p) (by omega) (by omega)
    simp (disch := omega) [f_X4_mayGo, gp_lit, gp_lt, show p < 7 by omega, gp_rd, e51, e4, hp7]
def gp_J (m : gn_M) (g : Nat) (A : Nat → Nat → Bool) (s p : Nat) : Prop := ∀ t, t < 2 ^ g → ∀ x, x < g → m.1 52 (7 * t + x) = nI (gp_pv g A t x (gp_Ps g s p (gp_df t (2 ^ x))))
theorem gp_Jq (hg : g ≤ 7) {s p p' : Nat} (h : gp_J m g A s p') (hs : s < 2 ^ g) (h0 : s ≠ 0) (hp : p < g) : m.1 52 (7 * s + p) = nI (gp_Q g A s 7 p) := by
  rw [h s hs p hp, ← gp_pvQ hg hs h0 hp]
  by_cases hb : s.testBit p = true
  · rw [gp_Ps, if_pos (gp_rm_less hb)]
  · unfold gp_pv
    rw [if_neg hb, if_neg hb]
theorem gp_addb {s i : Nat} (h : s.testBit i = false) : (s ||| 2 ^ i).testBit i = true ∧ gp_df (s ||| 2 ^ i) (2 ^ i) = s := by
  refine ⟨by rw [Nat.testBit_or, Nat.testBit_two_pow_self]; simp, ?_⟩
  apply Nat.eq_of_testBit_eq
  intro x
  rw [gp_rm_tb, Nat.testBit_or, Nat.testBit_two_pow]
  by_cases e : i = x
  · subst e; simp [h]
  · simp [e]
theorem gp_addb' {t i : Nat} (h : t.testBit i = true) : gp_df t (2 ^ i) ||| 2 ^ i = t ∧ (gp_df t (2 ^ i)).testBit i = false := by
  refine ⟨?_, by rw [gp_rm_tb]; simp⟩
  apply Nat.eq_of_testBit_eq
  intro x
  rw [Nat.testBit_or, gp_rm_tb, Nat.testBit_two_pow]
  by_cases e : i = x
  · subst e; simp [h]
  · simp [e]
theorem gp_tw117 {n : Nat} (hn : 5000 ≤ n) (hM : gp_cM m g d K Wt T G l S) (o : gp_ok g d K Wt T G l S) (hN : gp_nM m g nm) {L : Nat} (hL : L < 2 ^ g) {s p : Nat} (hs0 : s ≠ 0) (hs : s < 2 ^ g) (hp : p < g) (hJ : gp_J m g (gp_A L l nm) s p) (k : gn_M → Option gn_M) : ∃ m', (gp_f1 52 m m' ∧ gp_J m' g (gp_A L l nm) s (p + 1)) ∧ L_X4_tellWays_117 n (nI L) (nI s) (nI p) (nI (gp_Q g (gp_A L l nm) s 7 p)) k n 0 m = k m' := by
  have hg := o.g7
  have h7 := gp_p7 hg
  obtain ⟨A, hA⟩ : ∃ A, A = gp_A L l nm := ⟨_, rfl⟩
  rw [← hA] at hJ ⊢
  obtain ⟨q, hq⟩ : ∃ q, q = gp_Q g A s 7 p := ⟨_, rfl⟩
  have hqb : q ≤ 823543 := by rw [hq]; exact gp_Q_le hg hs (by decide) (by omega)
  have hPs : ∀ t x, gp_pv g A t x (gp_Ps g s (p + 1) (gp_df t (2 ^ x))) = gp_pv g A t x (gp_Ps g s p (gp_df t (2 ^ x))) + if t.testBit x = true ∧ gp_df t (2 ^ x) = s ∧ A p x = true then q else 0 := by
    intro t x
    unfold gp_pv
    by_cases hb : t.testBit x = true
    · rw [if_pos hb, if_pos hb]
      by_cases hr : gp_df t (2 ^ x) = s
      · rw [hr, if_neg hs0, if_neg hs0, gp_Ps, gp_Ps, if_neg (Nat.lt_irrefl s), if_neg (Nat.lt_irrefl s), if_pos rfl, if_pos rfl, gp_su, ← hq]
        by_cases ha : A p x = true
        · rw [if_pos ha, if_pos ⟨hb, rfl, ha⟩]
        · rw [if_neg ha, if_neg (fun z => ha z.2.2)]
      · rw [if_neg (c := _ ∧ _) (fun z => hr z.2.1), gp_Ps, gp_Ps, if_neg hr, if_neg hr, Nat.add_zero]
    · rw [if_neg hb, if_neg hb, if_neg (fun z => hb z.1)]
  rw [← hq]
  by_cases hq0 : q = 0
  · refine ⟨m, ⟨gp_f1.rfl', fun t ht x hx => ?_⟩, ?_⟩
    · rw [hJ t ht x hx, hPs, hq0]
      simp
    · obtain ⟨n', rfl⟩ : ∃ n', n = n' + 1 := ⟨n - 1, by omega⟩
      rw [L_X4_tellWays_117, hq0]
      simp (disch := omega) only [gp_lit, gp_lt, Nat.lt_irrefl, if_false, ite_self]
  · have key := gp_li (Lf := fun f i m => L_X4_tellWays_117 n (nI L) (nI s) (nI p) (nI q) k f (nI i) m) (N := g) (I := fun i m' => gp_f1 52 m m' ∧ ∀ t, t < 2 ^ g → ∀ x, x < g → m'.1 52 (7 * t + x) = nI (gp_pv g A t x (gp_Ps g s p (gp_df t (2 ^ x))) + if x < i ∧ t.testBit x = true ∧ gp_df t (2 ^ x) = s ∧ A p x = true then q else 0)) (kk := k) (fun f i m' hi hI => ?_) (fun f m' hI => ?_) g 0 n m (by omega) (by omega) ⟨gp_f1.rfl', fun t ht x hx => by rw [hJ t ht x hx]; simp⟩
    · obtain ⟨m', ⟨i1, i2⟩, e⟩ := key
      refine ⟨m', ⟨i1, fun t ht x hx => ?_⟩, e⟩
      rw [i2 t ht x hx, hPs]
      simp only [hx, true_and]
    · have hM' := (hI.1.sf (by omega)).cM hM
      have hN' : gp_nM m' g nm := by unfold gp_nM; rw [hI.1.1 51 (by omega)]; exact hN
      have hmg := gp_mgL hM' o hN' (p := p) (j := i) (by omega) hi
      have hgo := hM'.1.1
      have hq1 : 0 < q := by omega
      by_cases hc : s.testBit i = false ∧ A p i = true
      · obtain ⟨t0, ht0⟩ : ∃ t0, t0 = s ||| 2 ^ i := ⟨_, rfl⟩
        obtain ⟨b1, b2⟩ := gp_addb hc.1
        rw [← ht0] at b1 b2
        have ht0l : t0 < 2 ^ g := by rw [ht0]; exact gp_or_lt hs (gp_2_lt hi)
        have ec := hI.2 t0 ht0l i hi
        rw [if_neg (by omega), Nat.add_zero] at ec
        have hLi : L.testBit i = true ∧ gp_mg l nm p i = true := by
          have := hc.2
          rw [hA, gp_A] at this
          revert this
          cases L.testBit i <;> simp
        refine ⟨gn_up m' 52 (7 * t0 + i) (nI (gp_pv g A t0 i (gp_Ps g s p (gp_df t0 (2 ^ i)))) + nI q), ⟨hI.1.up, fun t ht x hx => ?_⟩, ?_⟩
        · rw [gp_u]
          by_cases qe : t = t0 ∧ x = i
          · obtain ⟨rfl, rfl⟩ := qe
            rw [if_pos ⟨rfl, rfl⟩, if_pos ⟨by omega, b1, b2, hc.2⟩, nI_add]
          · rw [if_neg (by omega), hI.2 t ht x hx]
            have : (x < i + 1 ∧ t.testBit x = true ∧ gp_df t (2 ^ x) = s ∧ A p x = true) = (x < i ∧ t.testBit x = true ∧ gp_df t (2 ^ x) = s ∧ A p x = true) := by
              apply propext
              constructor
              · rintro ⟨z1, z2, z3, z4⟩
                refine ⟨?_, z2, z3, z4⟩
                by_cases e : x = i
                · exfalso
                  apply qe
                  refine ⟨?_, e⟩
                  rw [ht0, ← (gp_addb' z2).1, z3, e]
                · omega
              · rintro ⟨z1, z2⟩
                exact ⟨by omega, z2⟩
            simp only [this]
        · show L_X4_tellWays_117 n (nI L) (nI s) (nI p) (nI q) k (f + 1) (nI i) m' = _
          rw [L_X4_tellWays_117]
          simp (disch := omega) only [gp_lit, hgo, gp_lt, hi, hq1, if_true, gp_has, hLi.1, hc.1, gp_bs, gp_eq, Nat.one_ne_zero, if_false, hmg, hLi.2, gp_sh, gp_or, ← ht0, pk_mul, nI_add, gp_rd, gp_wr, ec, Bool.false_eq_true]
      · refine ⟨m', ⟨hI.1, fun t ht x hx => ?_⟩, ?_⟩
        · rw [hI.2 t ht x hx]
          have : (x < i + 1 ∧ t.testBit x = true ∧ gp_df t (2 ^ x) = s ∧ A p x = true) = (x < i ∧ t.testBit x = true ∧ gp_df t (2 ^ x) = s ∧ A p x = true) := by
            apply propext
            constructor
            · rintro ⟨z1, z2, z3, z4⟩
              refine ⟨?_, z2, z3, z4⟩
              by_cases e : x = i
              · exfalso
                apply hc
                subst e
                refine ⟨?_, z4⟩
                rw [← z3]
                exact (gp_addb' z2).2
              · omega
            · rintro ⟨z1, z2⟩
              exact ⟨by omega, z2⟩
          simp only [this]
        · show L_X4_tellWays_117 n (nI L) (nI s) (nI p) (nI q) k (f + 1) (nI i) m' = _
          rw [L_X4_tellWays_117]
          by_cases c1 : L.testBit i = true
          · by_cases c2 : s.testBit i = true
            · simp (disch := omega) only [gp_lit, hgo, gp_lt, hi, hq1, if_true, gp_has, c1, c2, gp_bs, gp_eq, Nat.one_ne_zero, if_false, nI_add]
            · have c3 : ¬ gp_mg l nm p i = true := by
                intro z
                apply hc
                refine ⟨by simpa using c2, ?_⟩
                rw [hA, gp_A, c1, z]
                rfl
              simp (disch := omega) only [gp_lit, hgo, gp_lt, hi, hq1, if_true, gp_has, c1, c2, gp_bs, gp_eq, Nat.one_ne_zero, if_false, nI_add, hmg, c3, Bool.false_eq_true]
          · simp (disch := omega) only [gp_lit, hgo, gp_lt, hi, hq1, if_true, gp_has, c1, gp_bs, gp_eq, Nat.one_ne_zero, if_false, nI_add, Bool.false_eq_true]
    · show L_X4_tellWays_117 n (nI L) (nI s) (nI p) (nI q) k (f + 1) (nI g) m' = _
      rw [L_X4_tellWays_117]
      have hM' := (hI.1.sf (by omega)).cM hM
      simp (disch := omega) only [hM'.1.1, gp_lt, Nat.lt_irrefl, if_false]
theorem gp_tw93 {n : Nat} (hn : 5000 ≤ n) (hM : gp_cM m g d K Wt T G l S) (o : gp_ok g d K Wt T G l S) (hN : gp_nM m g nm) {L : Nat} (hL : L < 2 ^ g) {s : Nat} (hs0 : s ≠ 0) (hs : s < 2 ^ g) (hJ : gp_J m g (gp_A L l nm) s 0) (k : gn_M → Option gn_M) : ∃ m', (gp_f1 52 m m' ∧ gp_J m' g (gp_A L l nm) (s + 1) 0) ∧ L_X4_tellWays_93 n (nI L) (nI s) k n 0 m = k m' := by
  have hg := o.g7
  have h7 := gp_p7 hg
  have key := gp_li (Lf := fun f i m => L_X4_tellWays_93 n (nI L) (nI s) k f (nI i) m) (N := g) (I := fun i m' => gp_f1 52 m m' ∧ gp_J m' g (gp_A L l nm) s i) (kk := k) (fun f i m' hi hI => ?_) (fun f m' hI => ?_) g 0 n m (by omega) (by omega) ⟨gp_f1.rfl', hJ⟩
  · obtain ⟨m', ⟨i1, i2⟩, e⟩ := key
    refine ⟨m', ⟨i1, fun t ht x hx => ?_⟩, e⟩
    rw [i2 t ht x hx]
    have : gp_Ps g s g (gp_df t (2 ^ x)) = gp_Ps g (s + 1) 0 (gp_df t (2 ^ x)) := by
      unfold gp_Ps
      by_cases q1 : gp_df t (2 ^ x) < s
      · rw [if_pos q1, if_pos (by omega)]
      · by_cases q2 : gp_df t (2 ^ x) = s
        · rw [if_neg q1, if_pos q2, if_pos (by omega)]
        · rw [if_neg q1, if_neg q2, if_neg (by omega)]
          split <;> rfl
    rw [this]
  · have hM' := (hI.1.sf (by omega)).cM hM
    have hN' : gp_nM m' g nm := by unfold gp_nM; rw [hI.1.1 51 (by omega)]; exact hN
    have hq := gp_Jq hg hI.2 hs hs0 hi
    obtain ⟨m'', ⟨j1, j2⟩, j3⟩ := gp_tw117 hn hM' o hN' hL hs0 hs hi hI.2 (fun m16 => L_X4_tellWays_93 n (nI L) (nI s) k f (nI (i + 1)) m16)
    refine ⟨m'', ⟨hI.1.tr j1, j2⟩, ?_⟩
    show L_X4_tellWays_93 n (nI L) (nI s) k (f + 1) (nI i) m' = _
    rw [L_X4_tellWays_93]
    simp (disch := omega) only [hM'.1.1, gp_lt, hi, if_true, gp_lit, pk_mul, nI_add, gp_rd, hq]
    exact j3
  · show L_X4_tellWays_93 n (nI L) (nI s) k (f + 1) (nI g) m' = _
    rw [L_X4_tellWays_93]
    have hM' := (hI.1.sf (by omega)).cM hM
    simp (disch := omega) only [hM'.1.1, gp_lt, Nat.lt_irrefl, if_false]
end GPW
