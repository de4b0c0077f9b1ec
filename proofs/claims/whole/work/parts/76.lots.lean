/-! PURE: lots -/
def gp_x (x : Nat) : Nat := x * 48271 % 2147483647
def gp_lsq (g : Nat) (K : Nat → Nat) (s0 : gp_St) (x0 : Nat) : Nat → gp_St × Nat
  | 0 => (s0, x0)
  | q + 1 => (gp_ap K (gp_lw g K (gp_lsq g K s0 x0 q).1 (gp_x (gp_lsq g K s0 x0 q).2)) (gp_x (gp_lsq g K s0 x0 q).2 / 8 % g) (gp_x (gp_lsq g K s0 x0 q).2 / 64 % g) (gp_lsq g K s0 x0 q).1, gp_x (gp_lsq g K s0 x0 q).2)
/-- the deed that a lot makes -/
def gp_lc (g : Nat) (K : Nat → Nat) (s0 : gp_St) (x0 q : Nat) : Nat := 100 * gp_lw g K (gp_lsq g K s0 x0 q).1 (gp_x (gp_lsq g K s0 x0 q).2) + 10 * (gp_x (gp_lsq g K s0 x0 q).2 / 8 % g) + gp_x (gp_lsq g K s0 x0 q).2 / 64 % g
theorem gp_x_lt (x : Nat) : gp_x x < 2147483647 := Nat.mod_lt _ (by decide)
theorem gp_lsq_lt {g : Nat} {K : Nat → Nat} {s0 : gp_St} {x0 : Nat} (h : x0 < 2147483647) : ∀ q, (gp_lsq g K s0 x0 q).2 < 2147483647
  | 0 => h
  | q + 1 => gp_x_lt _
theorem gp_x64 {x : Nat} (h : x < 2147483647) : (lN x * (48271 : Int64)) - (lN x * (48271 : Int64)) / (2147483647 : Int64) * (2147483647 : Int64) = lN (gp_x x) := by
  rw [show (48271 : Int64) = lN 48271 from rfl, lN_mul, show (2147483647 : Int64) = lN 2147483647 from rfl, pk_lRem (by omega) (by omega) (by omega)]
  rfl
section GPLT
variable {m : gn_M} {g d : Nat} {K Wt : Nat → Nat} {s0 : gp_St}
def gp_okS (g d : Nat) (K Wt : Nat → Nat) (s : gp_St) : Prop := gp_ok g d K Wt s.1 s.2.1 s.2.2.1 s.2.2.2
theorem gp_okS.ap {s : gp_St} (o : gp_okS g d K Wt s) (hd : d < 40) {w i j : Nat} (hi : i < g) (hj : j < g) : gp_okS g (d + 1) K Wt (gp_ap K w i j s) := by
  have so : gp_so g s := ⟨fun i hi => (o.2.2.1 i hi).2.2, o.2.2.2.1, o.2.2.2.2.2, o.2.2.2.2.1⟩
  have so' := gp_ap_ok (K := K) (w := w) (i := i) (j := j) so hi hj
  exact ⟨o.1, by omega, fun i hi => ⟨(o.2.2.1 i hi).1, (o.2.2.1 i hi).2.1, so'.1 i hi⟩, so'.2.1, so'.2.2.2, so'.2.2.1⟩
theorem gp_okSq {x0 : Nat} (o : gp_okS g d K Wt s0) (g0 : 0 < g) : ∀ q, d + q ≤ 40 → gp_okS g (d + q) K Wt (gp_lsq g K s0 x0 q).1
  | 0, _ => o
  | q + 1, h => by
    have := (gp_okSq (x0 := x0) o g0 q (by omega)).ap (by omega) (w := gp_lw g K (gp_lsq g K s0 x0 q).1 (gp_x (gp_lsq g K s0 x0 q).2)) (i := gp_x (gp_lsq g K s0 x0 q).2 / 8 % g) (j := gp_x (gp_lsq g K s0 x0 q).2 / 64 % g) (Nat.mod_lt _ g0) (Nat.mod_lt _ g0)
    exact this
/-- what the class's lots have changed -/
def gp_lfC (m m' : gn_M) (d q : Nat) (code : Nat → Nat) : Prop := (∀ c, c ≠ 7 → c ≠ 30 → c ≠ 32 → m'.1 c = m.1 c) ∧ m'.2 = m.2 ∧ (∀ k, k < d → m'.1 32 k = m.1 32 k) ∧ ∀ k, k < q → m'.1 32 (d + k) = nI (code k)
theorem gp_ltC {n : Nat} (hn : 5000 ≤ n) {x0 N : Nat} (hC : gp_cC m g d K Wt s0.1 s0.2.1 s0.2.2.1 s0.2.2.2) (o : gp_okS g d K Wt s0) (g0 : 0 < g) (hN : d + N ≤ 40) (hx : x0 < 2147483647) (k : gn_M → Option (Int32 × gn_M)) : ∃ m', (gp_cC m' g (d + N) K Wt (gp_lsq g K s0 x0 N).1.1 (gp_lsq g K s0 x0 N).1.2.1 (gp_lsq g K s0 x0 N).1.2.2.1 (gp_lsq g K s0 x0 N).1.2.2.2 ∧ gp_lfC m m' d N (gp_lc g K s0 x0)) ∧ L_X3_lots_60 n (nI N) k n (lN x0) (nI 0) m = k m' := by
  have key := gp_li (Lf := fun f q (y : Int64 × gn_M) => L_X3_lots_60 n (nI N) k f y.1 (nI q) y.2) (N := N) (I := fun q y => (gp_cC y.2 g (d + q) K Wt (gp_lsq g K s0 x0 q).1.1 (gp_lsq g K s0 x0 q).1.2.1 (gp_lsq g K s0 x0 q).1.2.2.1 (gp_lsq g K s0 x0 q).1.2.2.2 ∧ gp_lfC m y.2 d q (gp_lc g K s0 x0)) ∧ y.1 = lN (gp_lsq g K s0 x0 q).2) (kk := fun y => k y.2) (fun f q y hq hI => ?_) (fun f y hI => ?_) N 0 n (lN x0, m) (by omega) (by omega) ⟨⟨hC, fun _ _ _ _ => rfl, rfl, fun _ _ => rfl, fun k hk => by omega⟩, rfl⟩
  · obtain ⟨y, ⟨i1, -⟩, e⟩ := key
    exact ⟨y.2, i1, e⟩
  · obtain ⟨v, m'⟩ := y
    obtain ⟨⟨i1, j1, j2, j3, j4⟩, i3⟩ := hI
    dsimp only at i1 j1 j2 j3 j4 i3
    have oq := gp_okSq (x0 := x0) o g0 q (by omega)
    obtain ⟨m'', b1, b2, b3⟩ := gp_doL i1 oq (by omega) g0 (gp_x_lt (gp_lsq g K s0 x0 q).2)
    refine ⟨(lN (gp_x (gp_lsq g K s0 x0 q).2), m''), ⟨⟨b2, fun c c1 c2 c3 => ?_, ?_, fun x hx => ?_, fun x hx => ?_⟩, rfl⟩, ?_⟩
    · rw [b3.2.2.1 c c1 c2 c3]; exact j1 c c1 c2 c3
    · rw [b3.2.2.2]; exact j2
    · rw [b3.2.1 x (by omega)]; exact j3 x hx
    · by_cases e : x = q
      · rw [e]
        exact b3.1
      · rw [b3.2.1 (d + x) (by omega)]
        exact j4 x (by omega)
    · show L_X3_lots_60 n (nI N) k (f + 1) v (nI q) m' = _
      have hlt := gp_lsq_lt (g := g) (K := K) (s0 := s0) hx q
      rw [L_X3_lots_60, i3, gp_x64 hlt, lN_i, b1, gp_bs, if_pos ((gp_lt (by omega) (by omega)).mpr hq)]
      rw [show (1 : Int32) = nI 1 from rfl, nI_add]
  · show L_X3_lots_60 n (nI N) k (f + 1) _ (nI N) _ = _
    rw [L_X3_lots_60]
    simp (disch := omega) only [gp_lt, Nat.lt_irrefl, if_false]
def gp_lfM (m m' : gn_M) (g d q : Nat) (st : Nat → gp_St) : Prop := (∀ c, c ≠ 38 → c ≠ 48 → m'.1 c = m.1 c) ∧ (∀ k, k < 10 * (d + 1) → m'.1 48 k = m.1 48 k) ∧ m'.1 38 0 = m.1 38 0 ∧ m'.1 38 2 = m.1 38 2 ∧ m'.2 = m.2 ∧ ∀ k, k ≤ q → gp_sn g (st k) (fun j => m'.1 48 (10 * (d + k) + j))
theorem gp_cM.sn {s : gp_St} (hM : gp_cM m g d K Wt s.1 s.2.1 s.2.2.1 s.2.2.2) : gp_sn g s (fun j => m.1 48 (10 * d + j)) := ⟨fun i hi => (hM.2 i hi).2.2, hM.1.2.2.1, hM.1.2.2.2.1, hM.1.2.2.2.2⟩
theorem gp_ltM {n : Nat} (hn : 5000 ≤ n) {x0 N : Nat} (hM : gp_cM m g d K Wt s0.1 s0.2.1 s0.2.2.1 s0.2.2.2) (o : gp_okS g d K Wt s0) (g0 : 0 < g) (hN : d + N ≤ 40) (hx : x0 < 2147483647) (k : gn_M → Option (Int32 × gn_M)) : ∃ m', (gp_cM m' g (d + N) K Wt (gp_lsq g K s0 x0 N).1.1 (gp_lsq g K s0 x0 N).1.2.1 (gp_lsq g K s0 x0 N).1.2.2.1 (gp_lsq g K s0 x0 N).1.2.2.2 ∧ gp_lfM m m' g d N (fun q => (gp_lsq g K s0 x0 q).1)) ∧ L_X4_lots_52 n (nI N) k n (lN x0) (nI 0) m = k m' := by
  have hg := o.g7
  have key := gp_li (Lf := fun f q (y : Int64 × gn_M) => L_X4_lots_52 n (nI N) k f y.1 (nI q) y.2) (N := N) (I := fun q y => (gp_cM y.2 g (d + q) K Wt (gp_lsq g K s0 x0 q).1.1 (gp_lsq g K s0 x0 q).1.2.1 (gp_lsq g K s0 x0 q).1.2.2.1 (gp_lsq g K s0 x0 q).1.2.2.2 ∧ gp_lfM m y.2 g d q (fun q => (gp_lsq g K s0 x0 q).1)) ∧ y.1 = lN (gp_lsq g K s0 x0 q).2) (kk := fun y => k y.2) (fun f q y hq hI => ?_) (fun f y hI => ?_) N 0 n (lN x0, m) (by omega) (by omega) ⟨⟨hM, fun _ _ _ => rfl, fun _ _ => rfl, rfl, rfl, rfl, fun k hk => ?_⟩, rfl⟩
  · obtain ⟨y, ⟨i1, -⟩, e⟩ := key
    exact ⟨y.2, i1, e⟩
  · obtain ⟨v, m'⟩ := y
    obtain ⟨⟨i1, j1, j2, j3, j4, j5, j6⟩, i3⟩ := hI
    dsimp only at i1 j1 j2 j3 j4 j5 j6 i3
    have oq := gp_okSq (x0 := x0) o g0 q (by omega)
    obtain ⟨m'', b1, b2, b3⟩ := gp_loL hn i1 oq (by omega) g0 (x := gp_x (gp_lsq g K s0 x0 q).2)
    have hb := gp_begin hn (show d + q < 40 by omega) i1.1.2.1
    have hMb := gp_bgM i1 hg
    refine ⟨(lN (gp_x (gp_lsq g K s0 x0 q).2), m''), ⟨⟨b2, fun c c1 c2 => ?_, fun x hx => ?_, ?_, ?_, ?_, fun x hx => ?_⟩, rfl⟩, ?_⟩
    · rw [b3.1 c c1 c2]; exact j1 c c1 c2
    · rw [b3.2.1 x (by omega)]; exact j2 x hx
    · rw [b3.2.2.1]; exact j3
    · rw [b3.2.2.2.1]; exact j4
    · rw [b3.2.2.2.2]; exact j5
    · by_cases e : x = q + 1
      · rw [e]
        exact gp_cM.sn b2
      · have hs := j6 x (by omega)
        refine ⟨fun i hi => ?_, ?_, ?_, ?_⟩
        · show m''.1 48 (10 * (d + x) + i) = _
          rw [b3.2.1 _ (by omega)]; exact hs.1 i hi
        · show m''.1 48 (10 * (d + x) + 7) = _
          rw [b3.2.1 _ (by omega)]; exact hs.2.1
        · show m''.1 48 (10 * (d + x) + 8) = _
          rw [b3.2.1 _ (by omega)]; exact hs.2.2.1
        · show m''.1 48 (10 * (d + x) + 9) = _
          rw [b3.2.1 _ (by omega)]; exact hs.2.2.2
    · show L_X4_lots_52 n (nI N) k (f + 1) v (nI q) m' = _
      have hlt := gp_lsq_lt (g := g) (K := K) (s0 := s0) hx q
      obtain ⟨y, hy⟩ : ∃ y, y = gp_x (gp_lsq g K s0 x0 q).2 := ⟨_, rfl⟩
      have hyl : y < 2147483647 := by rw [hy]; exact gp_x_lt _
      have e64 := gp_x64 hlt
      rw [← hy] at b1 e64 ⊢
      have d4 : lN y - lN y / (4 : Int64) * (4 : Int64) = lN (y % 4) := pk_lRem (a := y) (b := 4) (by omega) (by omega) (by omega)
      have d8 : lN y / (8 : Int64) = lN (y / 8) := pk_lDiv (a := y) (b := 8) (by omega) (by omega) (by omega)
      have d64 : lN y / (64 : Int64) = lN (y / 64) := pk_lDiv (a := y) (b := 64) (by omega) (by omega) (by omega)
      have r8 : lN (y / 8) - lN (y / 8) / lN g * lN g = lN (y / 8 % g) := pk_lRem (by omega) (by omega) (by omega)
      have r64 : lN (y / 64) - lN (y / 64) / lN g * lN g = lN (y / 64 % g) := pk_lRem (by omega) (by omega) (by omega)
      rw [L_X4_lots_52, if_pos ((gp_lt (by omega) (by omega)).mpr hq), hb, gp_bs, hMb.1.1, nI_l (by omega), gp_dvL (by omega) g0, gp_dvL (by omega) g0, i3, e64, d4, d8, d64, r8, r64, lN_i, lN_i, lN_i, b1, gp_bs]
      rw [show (1 : Int32) = nI 1 from rfl, nI_add]
  · show L_X4_lots_52 n (nI N) k (f + 1) _ (nI N) _ = _
    rw [L_X4_lots_52]
    simp (disch := omega) only [gp_lt, Nat.lt_irrefl, if_false]
  · rw [show k = 0 by omega]
    exact gp_cM.sn hM
end GPLT
