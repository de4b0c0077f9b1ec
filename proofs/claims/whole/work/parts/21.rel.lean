/-! PURE: what stands between the class's cells and the reference's -/
/-- those of the first that a thing holds of, by bits -/
def gp_bs1 (P : Nat → Bool) : Nat → Nat
  | 0 => 0
  | i + 1 => if P i then gp_bs1 P i ||| 2 ^ i else gp_bs1 P i
/-- a without b -/
def gp_df (a b : Nat) : Nat := a ^^^ (a &&& b)
/-- of whom one tells, by kind -/
def gp_tl (c i s : Nat) : Nat := if c = 3 then 0 else if c = 4 then s ||| 2 ^ i else if c = 5 then gp_df s (2 ^ i) else 2 ^ i
abbrev gp_St : Type := (Nat → Nat) × Nat × Nat × Nat
/-- a deed: what, who, who else -/
def gp_ap (K : Nat → Nat) (w i j : Nat) (s : gp_St) : gp_St :=
  if w = 1 then (fun x => if x = j then s.1 j ||| gp_df (gp_tl (K i) i (s.1 i)) (2 ^ j) else if x = i then s.1 i ||| gp_df (gp_tl (K j) j (s.1 j)) (2 ^ i) else s.1 x, s.2)
  else if w = 2 then (s.1, s.2.1, s.2.2.1, s.2.2.2 ||| gp_tl (K i) i (s.1 i))
  else if w = 3 then (fun x => if x = i then s.1 i ||| gp_df s.2.2.2 (2 ^ i) else s.1 x, s.2)
  else if w = 4 then (s.1, s.2.1 ||| 2 ^ i, i, s.2.2.2)
  else s
/-- deeds done from the start -/
def gp_rp (K T0 : Nat → Nat) (ds : Nat → Nat) : Nat → gp_St
  | 0 => (T0, 0, 7, 0)
  | k + 1 => gp_ap K (ds k / 100) (ds k / 10 % 10) (ds k % 10) (gp_rp K T0 ds k)
def gp_lI (l : Nat) : Int32 := if l < 7 then nI l else -9
def gp_vd (g c : Nat) : Prop := c / 100 ≤ 4 ∧ c / 10 % 10 < g ∧ c % 10 < g ∧ (c / 100 = 1 → c / 10 % 10 ≠ c % 10)
def gp_sn (g : Nat) (s : gp_St) (f : Nat → Int32) : Prop := (∀ i, i < g → f i = nI (s.1 i)) ∧ f 7 = nI s.2.1 ∧ f 8 = gp_lI s.2.2.1 ∧ f 9 = nI s.2.2.2
def gp_row (m : gn_M) : Prop := m.1 1 2 = 40 ∧ ∀ r, r < 6 → m.1 40 r = m.1 3 r ∧ (m.1 3 r = -1 ∨ ∃ s : Nat, s ≤ 40 ∧ m.1 3 r = nI s) ∧ ∀ i, i < 40 → m.1 41 (40 * r + i) = m.1 (10 + r) i
def gp_txt (m : gn_M) : Prop := m.1 4 2 = 60 ∧ ∀ t, t < 4 → m.1 42 t = m.1 6 t ∧ (m.1 6 t = -1 ∨ ∃ s : Nat, s ≤ 60 ∧ m.1 6 t = nI s) ∧ ∀ i, i < 60 → m.1 43 (60 * t + i) = m.1 (16 + t) i
def gp_num (m : gn_M) : Prop := m.1 38 0 = m.1 0 9 ∧ m.1 38 2 = m.1 0 10 ∧ m.2 38 3 = m.2 0 11 ∧ m.2 38 4 = m.2 0 12 ∧ ∀ f, f < 6 → m.1 39 f = m.1 26 f
/-- goers, their kinds and worths, what they were told at first -/
def gp_gf (g : Nat) (K Wt T0 : Nat → Nat) (m : gn_M) : Prop :=
  (g = 0 ∨ (2 ≤ g ∧ g ≤ 7)) ∧ m.1 7 6 = nI g ∧ m.1 38 10 = nI g ∧
  (∀ i, i < g → K i < 6 ∧ m.1 27 i = nI (K i) ∧ m.1 45 i = nI (K i) ∧ Wt i ≤ 9 ∧ m.1 28 i = nI (Wt i) ∧ m.1 46 i = nI (Wt i) ∧ T0 i < 2 ^ g ∧ (T0 i).testBit i = false ∧ m.1 29 i = nI (T0 i)) ∧
  (∀ c, c < 6 → m.1 31 c = nI (gp_bs1 (fun i => K i == c) g))
def gp_kp (g : Nat) (K T0 : Nat → Nat) (m : gn_M) : Prop := ∀ p, p < 3 → m.1 50 p = m.1 23 p ∧ (m.1 23 p = -1 ∨ ∃ (e : Nat) (es : Nat → Nat), g ≠ 0 ∧ e ≤ 40 ∧ m.1 23 p = nI e ∧ (∀ k, k < e → gp_vd g (es k) ∧ m.1 (20 + p) k = nI (es k)) ∧ ∀ k, k ≤ e → gp_sn g (gp_rp K T0 es k) (fun j => m.1 49 (410 * p + 10 * k + j)))
def gp_dd (g : Nat) (K T0 : Nat → Nat) (d : Nat) (ds : Nat → Nat) (m : gn_M) : Prop :=
  d ≤ 40 ∧ (g = 0 → d = 0) ∧ m.1 7 7 = nI d ∧ m.1 38 16 = nI d ∧ (∀ k, k < d → gp_vd g (ds k) ∧ m.1 32 k = nI (ds k)) ∧
  gp_sn g (gp_rp K T0 ds d) (fun j => if j < 7 then m.1 30 j else if j = 7 then m.1 7 8 else if j = 8 then m.1 7 9 else m.1 7 10) ∧
  ∀ k, k ≤ d → gp_sn g (gp_rp K T0 ds k) (fun j => m.1 48 (10 * k + j))
def gp_gate (m : gn_M) : Prop := ∃ (g : Nat) (K Wt T0 : Nat → Nat) (d : Nat) (ds : Nat → Nat), gp_gf g K Wt T0 m ∧ gp_dd g K T0 d ds m ∧ gp_kp g K T0 m
def gp_rel (m : gn_M) : Prop := gp_row m ∧ gp_txt m ∧ gp_num m ∧ gp_gate m
theorem gp_pf {α : Type} {m : gn_M} {k j : Nat} {x : Int32} {K : gn_M → Option α} : gn_pf m k j x K = K (gn_up m k j x) := rfl
theorem gp_pfL {α : Type} {m : gn_M} {k j : Nat} {x : Int64} {K : gn_M → Option α} : gn_pfL m k j x K = K (gn_upL m k j x) := rfl
theorem gp_m1lt : (-nI 1 < nI 0) = True := eq_true (by decide)
theorem gp_m1e : (-nI 1 = nI 0) = False := eq_false (by decide)
theorem gp_m3e : (-nI 3 = nI 0) = False := eq_false (by decide)
/-! each part looks at its own cells alone -/
theorem gp_row.cg {m m' : gn_M} (h : gp_row m) (h1 : m'.1 1 2 = m.1 1 2) (h3 : m'.1 3 = m.1 3) (h40 : m'.1 40 = m.1 40) (h41 : m'.1 41 = m.1 41) (hr : ∀ r, r < 6 → m'.1 (10 + r) = m.1 (10 + r)) : gp_row m' := by
  refine ⟨h1.trans h.1, fun r hr' => ?_⟩
  rw [h3, h40, h41, hr r hr']
  exact h.2 r hr'
theorem gp_txt.cg {m m' : gn_M} (h : gp_txt m) (h1 : m'.1 4 2 = m.1 4 2) (h3 : m'.1 6 = m.1 6) (h40 : m'.1 42 = m.1 42) (h41 : m'.1 43 = m.1 43) (hr : ∀ r, r < 4 → m'.1 (16 + r) = m.1 (16 + r)) : gp_txt m' := by
  refine ⟨h1.trans h.1, fun r hr' => ?_⟩
  rw [h3, h40, h41, hr r hr']
  exact h.2 r hr'
theorem gp_gate.cg {m m' : gn_M} (h : gp_gate m) (h7 : m'.1 7 = m.1 7) (h38 : m'.1 38 10 = m.1 38 10) (h38' : m'.1 38 16 = m.1 38 16) (h20 : ∀ p, p < 3 → m'.1 (20 + p) = m.1 (20 + p)) (h23 : m'.1 23 = m.1 23) (h27 : m'.1 27 = m.1 27) (h28 : m'.1 28 = m.1 28) (h29 : m'.1 29 = m.1 29) (h30 : m'.1 30 = m.1 30) (h31 : m'.1 31 = m.1 31) (h32 : m'.1 32 = m.1 32) (h45 : ∀ i, i < 7 → m'.1 45 i = m.1 45 i) (h46 : ∀ i, i < 7 → m'.1 46 i = m.1 46 i) (h48 : m'.1 48 = m.1 48) (h49 : m'.1 49 = m.1 49) (h50 : m'.1 50 = m.1 50) : gp_gate m' := by
  obtain ⟨g, K, Wt, T0, d, ds, ⟨a1, a2, a3, a4, a5⟩, ⟨b1, b2, b3, b4, b5, b6, b7⟩, c1⟩ := h
  refine ⟨g, K, Wt, T0, d, ds, ⟨a1, by rw [h7]; exact a2, h38.trans a3, fun i hi => ?_, fun c hc => by rw [h31]; exact a5 c hc⟩, ⟨b1, b2, by rw [h7]; exact b3, h38'.trans b4, fun k hk => by rw [h32]; exact b5 k hk, by rw [h30, h7]; exact b6, fun k hk => by rw [h48]; exact b7 k hk⟩, fun p hp => by rw [h50, h23, h20 p hp, h49]; exact c1 p hp⟩
  have hi7 : i < 7 := by rcases a1 with q | q <;> omega
  rw [h27, h45 i hi7, h28, h46 i hi7, h29]
  exact a4 i hi
/-- the memory with a finding told: class, reference -/
def gp_fc (m : gn_M) (f : Nat) : gn_M := gn_up (gn_up m 0 9 (nI f)) 26 f (m.1 26 f + 1)
def gp_fm (m : gn_M) (f : Nat) : gn_M := gn_up (gn_up m 38 0 (nI f)) 39 f (m.1 39 f + 1)
theorem gp_found {m : gn_M} {f : Nat} (h : f < 6) : f_X3_found m (nI f) = some (-3, gp_fc m f) := by
  simp (disch := omega) only [f_X3_found, gp_pf, gp_rd, gp_wr]
  rfl
theorem gp_find {m : gn_M} {f : Nat} (h : f < 6) : f_X4_find m (nI f) = some (-3, gp_fm m f) := by
  simp (disch := omega) only [f_X4_find, gp_pf, gp_rd, gp_wr]
  rfl
theorem gp_rel_find {m : gn_M} (h : gp_rel m) {f : Nat} (hf : f < 6) : gp_rel (gp_fm (gp_fc m f) f) := by
  obtain ⟨h1, h2, h3, h4⟩ := h
  refine ⟨h1.cg rfl ?_ ?_ ?_ ?_, h2.cg rfl ?_ ?_ ?_ ?_, ?_, h4.cg ?_ rfl rfl ?_ ?_ ?_ ?_ ?_ ?_ ?_ ?_ ?_ ?_ ?_ ?_ ?_⟩
  all_goals first
    | (unfold gp_fm gp_fc; simp (disch := omega) only [gp_une]; done)
    | (intro r hr; unfold gp_fm gp_fc; simp (disch := omega) only [gp_une]; done)
    | skip
  obtain ⟨a1, a2, a3, a4, a5⟩ := h3
  refine ⟨?_, ?_, a3, a4, fun j hj => ?_⟩
  · simp [gp_fm, gp_fc, gp_u]
  · simp [gp_fm, gp_fc, gp_u]; exact a2
  · by_cases e : j = f
    · subst e
      simp [gp_fm, gp_fc, gp_u, a5 j hf]
    · simp [gp_fm, gp_fc, gp_u, e, a5 j hj]
