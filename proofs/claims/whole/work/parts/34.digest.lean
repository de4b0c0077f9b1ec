/-! PURE: digest -/
def gp_it {α : Type} (S : Nat → α → α) : Nat → α → α
  | 0, s => s
  | i + 1, s => S i (gp_it S i s)
theorem gp_it_cg {α : Type} {S S' : Nat → α → α} {s : α} : ∀ {N : Nat}, (∀ i, i < N → ∀ x, S i x = S' i x) → gp_it S N s = gp_it S' N s
  | 0, _ => rfl
  | N + 1, h => by rw [gp_it, gp_it, gp_it_cg (fun i hi => h i (by omega)), h N (by omega)]
/-- a hash over so many numbers -/
def gp_h (F : Nat → Int32) (N : Nat) (s : Int64) : Int64 := gp_it (fun i x => ((31 : Int64) * x) + (F i).toInt64) N s
theorem gp_h_s (F : Nat → Int32) (i : Nat) (s : Int64) : ((31 : Int64) * gp_h F i s) + (F i).toInt64 = gp_h F (i + 1) s := rfl
theorem gp_h_cg {F F' : Nat → Int32} {s : Int64} {N : Nat} (h : ∀ i, i < N → F i = F' i) : gp_h F N s = gp_h F' N s := gp_it_cg (fun i hi x => by rw [h i hi])
theorem gp_it_s {α : Type} (S : Nat → α → α) (i : Nat) (s : α) : S i (gp_it S i s) = gp_it S (i + 1) s := rfl
/-- a hash over the strips of a shelf -/
def gp_hsh (Z : Nat → Int32) (F : Nat → Nat → Int32) : Nat → Int64 → Int64 := gp_it (fun r x => gp_h (F r) (Z r).toNatClampNeg (((31 : Int64) * x) + (Z r).toInt64))
section DG
variable {n : Nat} {m : gn_M} {k : Int64 → Option Int64} {s : Int64}
theorem gp_d6C {F : Nat → Int32} (hF : ∀ w, w < 12 → f_X3_countOf n m (nI w) = some (F w)) (hn : 5000 ≤ n) : L_X3_digest_6 n m k n s (0 : Int32) = k (gp_h (F) 12 s) := by
  refine gp_lp0 (Lf := fun f j (acc : Int64) => L_X3_digest_6 n m k f acc (nI j)) (N := 12) (A := fun j => gp_h (F) j s) (fun f j hj => ?_) (fun f => ?_) (by omega)
  · show L_X3_digest_6 n m k (f + 1) _ (nI j) = L_X3_digest_6 n m k f (gp_h (F) (j + 1) s) (nI (j + 1))
    rw [L_X3_digest_6]
    rw [← gp_h_s]
    simp (disch := omega) only [gp_lit, gp_lt, hj, if_true, if_false, gp_rd, nI_add, hF j hj, Option.bind_some]
  · show L_X3_digest_6 n m k (f + 1) _ (nI 12) = _
    rw [L_X3_digest_6]
    simp (disch := omega) only [gp_lit, gp_lt, Nat.lt_irrefl, if_false]
theorem gp_d6M {F : Nat → Int32} (hF : ∀ w, w < 12 → f_X4_count n m (nI w) = some (F w)) (hn : 5000 ≤ n) : L_X4_digest_6 n m k n s (0 : Int32) = k (gp_h (F) 12 s) := by
  refine gp_lp0 (Lf := fun f j (acc : Int64) => L_X4_digest_6 n m k f acc (nI j)) (N := 12) (A := fun j => gp_h (F) j s) (fun f j hj => ?_) (fun f => ?_) (by omega)
  · show L_X4_digest_6 n m k (f + 1) _ (nI j) = L_X4_digest_6 n m k f (gp_h (F) (j + 1) s) (nI (j + 1))
    rw [L_X4_digest_6]
    rw [← gp_h_s]
    simp (disch := omega) only [gp_lit, gp_lt, hj, if_true, if_false, gp_rd, nI_add, hF j hj, Option.bind_some, show ¬ 11 < j by omega]
  · show L_X4_digest_6 n m k (f + 1) _ (nI 12) = _
    rw [L_X4_digest_6]
    simp (disch := omega) only [gp_lit, gp_lt, Nat.lt_irrefl, if_false, if_true, show 11 < 12 by omega]
theorem gp_d47C {i : Nat} {F : Nat → Int32} (hF : ∀ w, w < 7 → f_X3_traitOf m (nI i) (nI w) = some (F w)) (hn : 5000 ≤ n) : L_X3_digest_47 n m (nI i) k n s (0 : Int32) = k (gp_h (F) 7 s) := by
  refine gp_lp0 (Lf := fun f j (acc : Int64) => L_X3_digest_47 n m (nI i) k f acc (nI j)) (N := 7) (A := fun j => gp_h (F) j s) (fun f j hj => ?_) (fun f => ?_) (by omega)
  · show L_X3_digest_47 n m (nI i) k (f + 1) _ (nI j) = L_X3_digest_47 n m (nI i) k f (gp_h (F) (j + 1) s) (nI (j + 1))
    rw [L_X3_digest_47]
    rw [← gp_h_s]
    simp (disch := omega) only [gp_lit, gp_lt, hj, if_true, if_false, gp_rd, nI_add, hF j hj, Option.bind_some]
  · show L_X3_digest_47 n m (nI i) k (f + 1) _ (nI 7) = _
    rw [L_X3_digest_47]
    simp (disch := omega) only [gp_lit, gp_lt, Nat.lt_irrefl, if_false]
theorem gp_d44M {i : Nat} {F : Nat → Int32} (hF : ∀ w, w < 7 → f_X4_factOf n m (nI i) (nI w) = some (F w)) (hn : 5000 ≤ n) : L_X4_digest_44 n m (nI i) k n s (0 : Int32) = k (gp_h (F) 7 s) := by
  refine gp_lp0 (Lf := fun f j (acc : Int64) => L_X4_digest_44 n m (nI i) k f acc (nI j)) (N := 7) (A := fun j => gp_h (F) j s) (fun f j hj => ?_) (fun f => ?_) (by omega)
  · show L_X4_digest_44 n m (nI i) k (f + 1) _ (nI j) = L_X4_digest_44 n m (nI i) k f (gp_h (F) (j + 1) s) (nI (j + 1))
    rw [L_X4_digest_44]
    rw [← gp_h_s]
    simp (disch := omega) only [gp_lit, gp_lt, hj, if_true, if_false, gp_rd, nI_add, hF j hj, Option.bind_some, show ¬ 6 < j by omega]
  · show L_X4_digest_44 n m (nI i) k (f + 1) _ (nI 7) = _
    rw [L_X4_digest_44]
    simp (disch := omega) only [gp_lit, gp_lt, Nat.lt_irrefl, if_false, if_true, show 6 < 7 by omega]
theorem gp_d83C (hn : 5000 ≤ n) : L_X3_digest_83 n m k n s (0 : Int32) = k (gp_h (m.1 23) 3 s) := by
  refine gp_lp0 (Lf := fun f j (acc : Int64) => L_X3_digest_83 n m k f acc (nI j)) (N := 3) (A := fun j => gp_h (m.1 23) j s) (fun f j hj => ?_) (fun f => ?_) (by omega)
  · show L_X3_digest_83 n m k (f + 1) _ (nI j) = L_X3_digest_83 n m k f (gp_h (m.1 23) (j + 1) s) (nI (j + 1))
    rw [L_X3_digest_83]
    rw [← gp_h_s]
    simp (disch := omega) only [gp_lit, gp_lt, hj, if_true, if_false, gp_rd, nI_add, gp_rd, Option.bind_some]
  · show L_X3_digest_83 n m k (f + 1) _ (nI 3) = _
    rw [L_X3_digest_83]
    simp (disch := omega) only [gp_lit, gp_lt, Nat.lt_irrefl, if_false]
theorem gp_d80M (hn : 5000 ≤ n) : L_X4_digest_80 n m k n s (0 : Int32) = k (gp_h (m.1 50) 3 s) := by
  refine gp_lp0 (Lf := fun f j (acc : Int64) => L_X4_digest_80 n m k f acc (nI j)) (N := 3) (A := fun j => gp_h (m.1 50) j s) (fun f j hj => ?_) (fun f => ?_) (by omega)
  · show L_X4_digest_80 n m k (f + 1) _ (nI j) = L_X4_digest_80 n m k f (gp_h (m.1 50) (j + 1) s) (nI (j + 1))
    rw [L_X4_digest_80]
    rw [← gp_h_s]
    simp (disch := omega) only [gp_lit, gp_lt, hj, if_true, if_false, gp_rd, nI_add, gp_rd, Option.bind_some]
  · show L_X4_digest_80 n m k (f + 1) _ (nI 3) = _
    rw [L_X4_digest_80]
    simp (disch := omega) only [gp_lit, gp_lt, Nat.lt_irrefl, if_false]
theorem gp_d33C {g : Nat} {F : Nat → Nat → Int32} (hg : g ≤ 7) (eg : m.1 7 6 = nI g) (hF : ∀ i, i < g → ∀ w, w < 7 → f_X3_traitOf m (nI i) (nI w) = some (F i w)) (hn : 5000 ≤ n) : L_X3_digest_33 n m k n s (0 : Int32) = k (gp_it (fun i x => gp_h (F i) 7 x) g s) := by
  refine gp_lp0 (Lf := fun f j (acc : Int64) => L_X3_digest_33 n m k f acc (nI j)) (N := g) (A := fun j => gp_it (fun i x => gp_h (F i) 7 x) j s) (fun f j hj => ?_) (fun f => ?_) (by omega)
  · show L_X3_digest_33 n m k (f + 1) _ (nI j) = L_X3_digest_33 n m k f (gp_it (fun i x => gp_h (F i) 7 x) (j + 1) s) (nI (j + 1))
    rw [L_X3_digest_33, eg, if_pos (by rw [gp_lt (by omega) (by omega)]; exact hj), gp_d47C (hF j hj) hn]
    show L_X3_digest_33 n m k f (gp_h (F j) 7 _) (nI j + nI 1) = _
    rw [nI_add]
    rfl
  · show L_X3_digest_33 n m k (f + 1) _ (nI g) = _
    rw [L_X3_digest_33, eg, if_neg (by rw [gp_lt (by omega) (by omega)]; omega)]
theorem gp_d33M {g : Nat} {F : Nat → Nat → Int32} (hg : g ≤ 7) (eg : m.1 38 10 = nI g) (hF : ∀ i, i < g → ∀ w, w < 7 → f_X4_factOf n m (nI i) (nI w) = some (F i w)) (hn : 5000 ≤ n) : L_X4_digest_33 n m k n s (0 : Int32) = k (gp_it (fun i x => gp_h (F i) 7 x) g s) := by
  refine gp_lp0 (Lf := fun f j (acc : Int64) => L_X4_digest_33 n m k f acc (nI j)) (N := g) (A := fun j => gp_it (fun i x => gp_h (F i) 7 x) j s) (fun f j hj => ?_) (fun f => ?_) (by omega)
  · show L_X4_digest_33 n m k (f + 1) _ (nI j) = L_X4_digest_33 n m k f (gp_it (fun i x => gp_h (F i) 7 x) (j + 1) s) (nI (j + 1))
    rw [L_X4_digest_33, eg, if_pos (by rw [gp_lt (by omega) (by omega)]; exact hj), gp_d44M (hF j hj) hn]
    show L_X4_digest_33 n m k f (gp_h (F j) 7 _) (nI j + nI 1) = _
    rw [nI_add]
    rfl
  · show L_X4_digest_33 n m k (f + 1) _ (nI g) = _
    rw [L_X4_digest_33, eg, if_neg (by rw [gp_lt (by omega) (by omega)]; omega)]
theorem gp_d33r {r : Nat} (hr : r < 6) (hz : gp_zs (m.1 3 r) 40) (hn : 5000 ≤ n) : L_X2_digestFrom_r_33 n m (nI r) k n s (0 : Int32) = k (gp_h (m.1 (10 + r)) (m.1 3 r).toNatClampNeg s) := by
  have hle := gp_zs_le hz (by decide)
  have hlt := fun i hi => gp_zs_lt (i := i) hz (by decide) hi
  refine gp_lp0 (Lf := fun f j (acc : Int64) => L_X2_digestFrom_r_33 n m (nI r) k f acc (nI j)) (N := (m.1 3 r).toNatClampNeg) (A := fun j => gp_h (m.1 (10 + r)) j s) (fun f j hj => ?_) (fun f => ?_) (by omega)
  · show L_X2_digestFrom_r_33 n m (nI r) k (f + 1) _ (nI j) = L_X2_digestFrom_r_33 n m (nI r) k f (gp_h (m.1 (10 + r)) (j + 1) s) (nI (j + 1))
    rw [L_X2_digestFrom_r_33, gp_rd hr (by omega), if_pos (by rw [hlt j (by omega)]; exact hj), gp_ra hr (by omega), gp_rd (by omega) (by omega), ← gp_h_s, ← nI_add]
    rfl
  · show L_X2_digestFrom_r_33 n m (nI r) k (f + 1) _ (nI (m.1 3 r).toNatClampNeg) = _
    rw [L_X2_digestFrom_r_33, gp_rd hr (by omega), if_neg (by rw [hlt _ (by omega)]; omega)]
theorem gp_dCr (hz : ∀ r, r < 6 → gp_zs (m.1 3 r) 40) (hn : 5000 ≤ n) : f_X2_digestFrom_r n m s = some (gp_hsh (m.1 3) (fun r => m.1 (10 + r)) 6 s) := by
  unfold f_X2_digestFrom_r
  refine gp_lp0 (Lf := fun f j (acc : Int64) => L_X2_digestFrom_r_5 n m (fun e => some e) f acc (nI j)) (N := 6) (A := fun j => gp_hsh (m.1 3) (fun r => m.1 (10 + r)) j s) (fun f j hj => ?_) (fun f => ?_) (by omega)
  · show L_X2_digestFrom_r_5 n m _ (f + 1) _ (nI j) = L_X2_digestFrom_r_5 n m _ f (gp_hsh (m.1 3) (fun r => m.1 (10 + r)) (j + 1) s) (nI (j + 1))
    rw [L_X2_digestFrom_r_5, if_pos (show nI j < (6 : Int32) from (show nI j < nI 6 by rw [gp_lt (by omega) (by omega)]; exact hj)), gp_rd hj (by omega), gp_d33r hj (hz j hj) hn, ← nI_add]
    rfl
  · show L_X2_digestFrom_r_5 n m _ (f + 1) _ (nI 6) = _
    rw [L_X2_digestFrom_r_5, if_neg (show ¬ nI 6 < (6 : Int32) from (show ¬ nI 6 < nI 6 by rw [gp_lt (by omega) (by omega)]; omega))]
theorem gp_d33t {r : Nat} (hr : r < 4) (hz : gp_zs (m.1 6 r) 60) (hn : 5000 ≤ n) : L_X2_digestFrom_t_33 n m (nI r) k n s (0 : Int32) = k (gp_h (m.1 (16 + r)) (m.1 6 r).toNatClampNeg s) := by
  have hle := gp_zs_le hz (by decide)
  have hlt := fun i hi => gp_zs_lt (i := i) hz (by decide) hi
  refine gp_lp0 (Lf := fun f j (acc : Int64) => L_X2_digestFrom_t_33 n m (nI r) k f acc (nI j)) (N := (m.1 6 r).toNatClampNeg) (A := fun j => gp_h (m.1 (16 + r)) j s) (fun f j hj => ?_) (fun f => ?_) (by omega)
  · show L_X2_digestFrom_t_33 n m (nI r) k (f + 1) _ (nI j) = L_X2_digestFrom_t_33 n m (nI r) k f (gp_h (m.1 (16 + r)) (j + 1) s) (nI (j + 1))
    rw [L_X2_digestFrom_t_33, gp_rd hr (by omega), if_pos (by rw [hlt j (by omega)]; exact hj), gp_ra hr (by omega), gp_rd (by omega) (by omega), ← gp_h_s, ← nI_add]
    rfl
  · show L_X2_digestFrom_t_33 n m (nI r) k (f + 1) _ (nI (m.1 6 r).toNatClampNeg) = _
    rw [L_X2_digestFrom_t_33, gp_rd hr (by omega), if_neg (by rw [hlt _ (by omega)]; omega)]
theorem gp_dCt (hz : ∀ r, r < 4 → gp_zs (m.1 6 r) 60) (hn : 5000 ≤ n) : f_X2_digestFrom_t n m s = some (gp_hsh (m.1 6) (fun r => m.1 (16 + r)) 4 s) := by
  unfold f_X2_digestFrom_t
  refine gp_lp0 (Lf := fun f j (acc : Int64) => L_X2_digestFrom_t_5 n m (fun e => some e) f acc (nI j)) (N := 4) (A := fun j => gp_hsh (m.1 6) (fun r => m.1 (16 + r)) j s) (fun f j hj => ?_) (fun f => ?_) (by omega)
  · show L_X2_digestFrom_t_5 n m _ (f + 1) _ (nI j) = L_X2_digestFrom_t_5 n m _ f (gp_hsh (m.1 6) (fun r => m.1 (16 + r)) (j + 1) s) (nI (j + 1))
    rw [L_X2_digestFrom_t_5, if_pos (show nI j < (4 : Int32) from (show nI j < nI 4 by rw [gp_lt (by omega) (by omega)]; exact hj)), gp_rd hj (by omega), gp_d33t hj (hz j hj) hn, ← nI_add]
    rfl
  · show L_X2_digestFrom_t_5 n m _ (f + 1) _ (nI 4) = _
    rw [L_X2_digestFrom_t_5, if_neg (show ¬ nI 4 < (4 : Int32) from (show ¬ nI 4 < nI 4 by rw [gp_lt (by omega) (by omega)]; omega))]
theorem gp_dIr {r : Nat} (hr : r < 6) (hz : gp_zs (m.1 40 r) 40) (hn : 5000 ≤ n) : L_X4_digest_130 n m (nI r) k n s (0 : Int32) = k (gp_h (fun i => m.1 41 (40 * r + i)) (m.1 40 r).toNatClampNeg s) := by
  have hle := gp_zs_le hz (by decide)
  have hlt := fun i hi => gp_zs_lt (i := i) hz (by decide) hi
  refine gp_lp0 (Lf := fun f j (acc : Int64) => L_X4_digest_130 n m (nI r) k f acc (nI j)) (N := (m.1 40 r).toNatClampNeg) (A := fun j => gp_h (fun i => m.1 41 (40 * r + i)) j s) (fun f j hj => ?_) (fun f => ?_) (by omega)
  · show L_X4_digest_130 n m (nI r) k (f + 1) _ (nI j) = L_X4_digest_130 n m (nI r) k f (gp_h (fun i => m.1 41 (40 * r + i)) (j + 1) s) (nI (j + 1))
    rw [L_X4_digest_130, gp_rd hr (by omega), if_pos (by rw [hlt j (by omega)]; exact hj), show (40 : Int32) = nI 40 from rfl, pk_mul, nI_add, gp_rd (by omega) (by omega), ← gp_h_s, ← nI_add]
    rfl
  · show L_X4_digest_130 n m (nI r) k (f + 1) _ (nI (m.1 40 r).toNatClampNeg) = _
    rw [L_X4_digest_130, gp_rd hr (by omega), if_neg (by rw [hlt _ (by omega)]; omega)]
theorem gp_dMr (hz : ∀ r, r < 6 → gp_zs (m.1 40 r) 40) (hn : 5000 ≤ n) : L_X4_digest_107 n m k n s (0 : Int32) = k (gp_hsh (m.1 40) (fun r i => m.1 41 (40 * r + i)) 6 s) := by
  refine gp_lp0 (Lf := fun f j (acc : Int64) => L_X4_digest_107 n m k f acc (nI j)) (N := 6) (A := fun j => gp_hsh (m.1 40) (fun r i => m.1 41 (40 * r + i)) j s) (fun f j hj => ?_) (fun f => ?_) (by omega)
  · show L_X4_digest_107 n m _ (f + 1) _ (nI j) = L_X4_digest_107 n m _ f (gp_hsh (m.1 40) (fun r i => m.1 41 (40 * r + i)) (j + 1) s) (nI (j + 1))
    rw [L_X4_digest_107, if_pos (show nI j < (6 : Int32) from (show nI j < nI 6 by rw [gp_lt (by omega) (by omega)]; exact hj)), gp_rd hj (by omega), gp_dIr hj (hz j hj) hn, ← nI_add]
    rfl
  · show L_X4_digest_107 n m _ (f + 1) _ (nI 6) = _
    rw [L_X4_digest_107, if_neg (show ¬ nI 6 < (6 : Int32) from (show ¬ nI 6 < nI 6 by rw [gp_lt (by omega) (by omega)]; omega))]
theorem gp_dIt {r : Nat} (hr : r < 4) (hz : gp_zs (m.1 42 r) 60) (hn : 5000 ≤ n) : L_X4_digest_197 n m (nI r) k n s (0 : Int32) = k (gp_h (fun i => m.1 43 (60 * r + i)) (m.1 42 r).toNatClampNeg s) := by
  have hle := gp_zs_le hz (by decide)
  have hlt := fun i hi => gp_zs_lt (i := i) hz (by decide) hi
  refine gp_lp0 (Lf := fun f j (acc : Int64) => L_X4_digest_197 n m (nI r) k f acc (nI j)) (N := (m.1 42 r).toNatClampNeg) (A := fun j => gp_h (fun i => m.1 43 (60 * r + i)) j s) (fun f j hj => ?_) (fun f => ?_) (by omega)
  · show L_X4_digest_197 n m (nI r) k (f + 1) _ (nI j) = L_X4_digest_197 n m (nI r) k f (gp_h (fun i => m.1 43 (60 * r + i)) (j + 1) s) (nI (j + 1))
    rw [L_X4_digest_197, gp_rd hr (by omega), if_pos (by rw [hlt j (by omega)]; exact hj), show (60 : Int32) = nI 60 from rfl, pk_mul, nI_add, gp_rd (by omega) (by omega), ← gp_h_s, ← nI_add]
    rfl
  · show L_X4_digest_197 n m (nI r) k (f + 1) _ (nI (m.1 42 r).toNatClampNeg) = _
    rw [L_X4_digest_197, gp_rd hr (by omega), if_neg (by rw [hlt _ (by omega)]; omega)]
theorem gp_dMt (hz : ∀ r, r < 4 → gp_zs (m.1 42 r) 60) (hn : 5000 ≤ n) : L_X4_digest_175 n m k n s (0 : Int32) = k (gp_hsh (m.1 42) (fun r i => m.1 43 (60 * r + i)) 4 s) := by
  refine gp_lp0 (Lf := fun f j (acc : Int64) => L_X4_digest_175 n m k f acc (nI j)) (N := 4) (A := fun j => gp_hsh (m.1 42) (fun r i => m.1 43 (60 * r + i)) j s) (fun f j hj => ?_) (fun f => ?_) (by omega)
  · show L_X4_digest_175 n m _ (f + 1) _ (nI j) = L_X4_digest_175 n m _ f (gp_hsh (m.1 42) (fun r i => m.1 43 (60 * r + i)) (j + 1) s) (nI (j + 1))
    rw [L_X4_digest_175, if_pos (show nI j < (4 : Int32) from (show nI j < nI 4 by rw [gp_lt (by omega) (by omega)]; exact hj)), gp_rd hj (by omega), gp_dIt hj (hz j hj) hn, ← nI_add]
    rfl
  · show L_X4_digest_175 n m _ (f + 1) _ (nI 4) = _
    rw [L_X4_digest_175, if_neg (show ¬ nI 4 < (4 : Int32) from (show ¬ nI 4 < nI 4 by rw [gp_lt (by omega) (by omega)]; omega))]
end DG
theorem op_digest {n : Nat} (hn : 5000 ≤ n) {m : gn_M} (h : gp_rel m) : ∃ r, f_X3_digest n m = some r ∧ f_X4_digest n m = some r := by
  obtain ⟨g, d, K, Wt, T, G, l, S, o, hC, hM⟩ := h.2.2.2.now
  have hg := o.g7
  have r3 := fun i hi => (h.1.2 i hi).1
  have r6 := fun i hi => (h.2.1.2 i hi).1
  have z3 : ∀ r, r < 6 → gp_zs (m.1 3 r) 40 := fun r hr => (h.1.2 r hr).2.1
  have z6 : ∀ r, r < 4 → gp_zs (m.1 6 r) 60 := fun r hr => (h.2.1.2 r hr).2.1
  have z40 : ∀ r, r < 6 → gp_zs (m.1 40 r) 40 := fun r hr => by rw [r3 r hr]; exact z3 r hr
  have z42 : ∀ r, r < 4 → gp_zs (m.1 42 r) 60 := fun r hr => by rw [r6 r hr]; exact z6 r hr
  have e1 := fun w (hw : w < 12) => gp_cnC hn hC o hw
  have e2 := fun w (hw : w < 12) => gp_cnM hn hM o r3 r6 h.2.2.2.r23 hw
  have e3 := fun i (hi : i < g) w (hw : w < 7) => gp_ftC hC o hi hw
  have e4 := fun i (hi : i < g) w (hw : w < 7) => gp_ftM hn hM o hi hw
  refine ⟨gp_hsh (m.1 6) (fun r => m.1 (16 + r)) 4 (gp_hsh (m.1 3) (fun r => m.1 (10 + r)) 6 (gp_h (m.1 23) 3 (gp_it (fun i x => gp_h (fun w => nI (gp_ft g K Wt T G l i w)) 7 x) g (gp_h (gp_cn m g d K T G l S) 12 17)))), ?_, ?_⟩
  · rw [f_X3_digest, gp_d6C e1 hn, gp_d33C (F := fun i w => nI (gp_ft g K Wt T G l i w)) hg hC.1.1 e3 hn, gp_d83C hn, gp_dCr z3 hn, Option.bind_some, gp_dCt z6 hn, Option.bind_some]
  · rw [f_X4_digest, gp_d6M e2 hn, gp_d33M (F := fun i w => nI (gp_ft g K Wt T G l i w)) hg hM.1.1 e4 hn, gp_d80M hn, gp_dMr z40 hn, gp_dMt z42 hn]
    have q : ∀ s, gp_h (m.1 50) 3 s = gp_h (m.1 23) 3 s := fun s => gp_h_cg h.2.2.2.r23
    have q1 : ∀ s, gp_hsh (m.1 40) (fun r i => m.1 41 (40 * r + i)) 6 s = gp_hsh (m.1 3) (fun r => m.1 (10 + r)) 6 s := fun s => gp_it_cg (fun r hr x => by
      have b := gp_zs_le (z3 r hr) (by decide)
      simp only [r3 r hr]
      exact gp_h_cg (fun i hi => (h.1.2 r hr).2.2 i (by omega)))
    have q2 : ∀ s, gp_hsh (m.1 42) (fun r i => m.1 43 (60 * r + i)) 4 s = gp_hsh (m.1 6) (fun r => m.1 (16 + r)) 4 s := fun s => gp_it_cg (fun r hr x => by
      have b := gp_zs_le (z6 r hr) (by decide)
      simp only [r6 r hr]
      exact gp_h_cg (fun i hi => (h.2.1.2 r hr).2.2 i (by omega)))
    rw [q, q1, q2]
