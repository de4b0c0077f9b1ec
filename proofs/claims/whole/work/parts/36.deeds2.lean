/-! PURE: deeds: the reference's, and what stands after both -/
theorem gp_rp_cg {K T0 ds ds' : Nat → Nat} : ∀ {n : Nat}, (∀ k, k < n → ds k = ds' k) → gp_rp K T0 ds n = gp_rp K T0 ds' n
  | 0, _ => rfl
  | n + 1, h => by rw [gp_rp, gp_rp, gp_rp_cg (fun k hk => h k (by omega)), h n (by omega)]
theorem gp_nx {m m2 : gn_M} {g d c : Nat} {K Wt T0 ds : Nat → Nat} {s : gp_St} (hgf : gp_gf g K Wt T0 m) (hdd : gp_dd g K T0 d ds m) (hkp : gp_kp g K T0 m) (hd : d < 40) (vd : gp_vd g c) (hs : s = gp_ap K (c / 100) (c / 10 % 10) (c % 10) (gp_rp K T0 ds d))
    (hC : gp_cC m2 g (d + 1) K Wt s.1 s.2.1 s.2.2.1 s.2.2.2) (hM : gp_cM m2 g (d + 1) K Wt s.1 s.2.1 s.2.2.1 s.2.2.2) (f32 : m2.1 32 d = nI c) (f32' : ∀ k, k ≠ d → m2.1 32 k = m.1 32 k) (f48 : ∀ k, k < 10 * (d + 1) → m2.1 48 k = m.1 48 k) (fr : ∀ c, c ≠ 7 → c ≠ 30 → c ≠ 32 → c ≠ 38 → c ≠ 48 → m2.1 c = m.1 c) : gp_gate m2 := by
  obtain ⟨a1, a2, a3, a4, a5⟩ := hgf
  obtain ⟨b1, b2, b3, b4, b5, b6, b7⟩ := hdd
  have hg : g ≤ 7 := by rcases a1 with q | q <;> omega
  have rq : ∀ k, k ≤ d → gp_rp K T0 (fun k => if k = d then c else ds k) k = gp_rp K T0 ds k := fun k hk => gp_rp_cg (fun x hx => by rw [if_neg (by omega)])
  have rs : gp_rp K T0 (fun k => if k = d then c else ds k) (d + 1) = s := by
    rw [gp_rp, rq d (Nat.le_refl _), hs]
    simp
  refine ⟨g, K, Wt, T0, d + 1, fun k => if k = d then c else ds k, ⟨a1, hC.1.1, hM.1.1, fun i hi => ?_, hC.2.2⟩, ⟨by omega, fun e => ?_, hC.1.2.1, hM.1.2.1, fun k hk => ?_, ?_, fun k hk => ?_⟩, fun p hp => ?_⟩
  · rw [fr 27 (by decide) (by decide) (by decide) (by decide) (by decide), fr 45 (by decide) (by decide) (by decide) (by decide) (by decide), fr 28 (by decide) (by decide) (by decide) (by decide) (by decide), fr 46 (by decide) (by decide) (by decide) (by decide) (by decide), fr 29 (by decide) (by decide) (by decide) (by decide) (by decide)]
    exact a4 i hi
  · have := vd.2.1; omega
  · by_cases e : k = d
    · dsimp only
      rw [if_pos e, e]; exact ⟨vd, f32⟩
    · dsimp only
      rw [if_neg e, f32' k e]; exact b5 k (by omega)
  · rw [rs]
    refine ⟨fun i hi => ?_, ?_, ?_, ?_⟩
    · simp only [show i < 7 by omega, if_true]; exact (hC.2.1 i hi).2.2
    · exact hC.1.2.2.1
    · exact hC.1.2.2.2.1
    · exact hC.1.2.2.2.2
  · by_cases e : k = d + 1
    · rw [e, rs]
      exact ⟨fun i hi => (hM.2 i hi).2.2, hM.1.2.2.1, hM.1.2.2.2.1, hM.1.2.2.2.2⟩
    · rw [rq k (by omega)]
      have q := b7 k (by omega)
      refine ⟨fun i hi => ?_, ?_, ?_, ?_⟩
      · show m2.1 48 (10 * k + i) = _; rw [f48 _ (by omega)]; exact q.1 i hi
      · show m2.1 48 (10 * k + 7) = _; rw [f48 _ (by omega)]; exact q.2.1
      · show m2.1 48 (10 * k + 8) = _; rw [f48 _ (by omega)]; exact q.2.2.1
      · show m2.1 48 (10 * k + 9) = _; rw [f48 _ (by omega)]; exact q.2.2.2
  · rw [fr 50 (by decide) (by decide) (by decide) (by decide) (by decide), fr 23 (by decide) (by decide) (by decide) (by decide) (by decide), fr (20 + p) (by omega) (by omega) (by omega) (by omega) (by omega), fr 49 (by decide) (by decide) (by decide) (by decide) (by decide)]
    exact hkp p hp
/-- the reference begins a deed -/
def gp_bgA (m : gn_M) (d j : Nat) : gn_M := (fun a b => if a = 48 ∧ 10 * (d + 1) ≤ b ∧ b < 10 * (d + 1) + j then m.1 48 (b - 10) else m.1 a b, m.2)
theorem gp_bgf {m : gn_M} {d j k : Nat} (h : k ≠ 48) : (gp_bgA m d j).1 k = m.1 k := by
  funext b
  simp [gp_bgA, h]
theorem gp_bgS {m : gn_M} {d j : Nat} (hj : j < 10) : gn_up (gp_bgA m d j) 48 (10 * (d + 1) + j) (m.1 48 (10 * d + j)) = gp_bgA m d (j + 1) := by
  refine Prod.ext ?_ rfl
  funext a b
  rw [gp_u]
  dsimp only [gp_bgA]
  by_cases e : a = 48 ∧ b = 10 * (d + 1) + j
  · rw [if_pos e, if_pos ⟨e.1, by omega, by omega⟩, e.2]
    rw [show 10 * (d + 1) + j - 10 = 10 * d + j by omega]
  · rw [if_neg e]
    by_cases e2 : a = 48 ∧ 10 * (d + 1) ≤ b ∧ b < 10 * (d + 1) + j
    · rw [if_pos e2, if_pos ⟨e2.1, e2.2.1, by omega⟩]
    · rw [if_neg e2, if_neg (fun q => e ⟨q.1, by
        have := fun z => e2 ⟨q.1, q.2.1, z⟩
        omega⟩)]
def gp_bg (m : gn_M) (d : Nat) : gn_M := gn_up (gp_bgA m d 10) 38 16 (nI (d + 1))
theorem gp_begin {n : Nat} (hn : 5000 ≤ n) {m : gn_M} {d : Nat} (hd : d < 40) (e : m.1 38 16 = nI d) : f_X4_begin n m = some (gp_bg m d) := by
  unfold f_X4_begin
  have e' : ∀ j, (gp_bgA m d j).1 38 16 = nI d := fun j => by rw [gp_bgf (by decide)]; exact e
  have a0 : gp_bgA m d 0 = m := by
    refine Prod.ext ?_ rfl
    funext a b
    dsimp only [gp_bgA]
    rw [if_neg (by omega)]
  have q := gp_lp0 (Lf := fun f j (M : gn_M) => L_X4_begin_2 n (fun (m3 : gn_M) => gn_pf m3 38 16 ((m3.1 38 16) + (1 : Int32)) (fun m4 => some m4)) f (nI j) M) (N := 10) (A := fun j => gp_bgA m d j) (r := some (gp_bg m d)) (fun f j hj => ?_) (fun f => ?_) (f := n) (by omega)
  · rw [a0] at q
    exact q
  · show L_X4_begin_2 n _ (f + 1) (nI j) (gp_bgA m d j) = L_X4_begin_2 n _ f (nI (j + 1)) (gp_bgA m d (j + 1))
    rw [L_X4_begin_2]
    have r : (gp_bgA m d j).1 48 (10 * d + j) = m.1 48 (10 * d + j) := by
      dsimp only [gp_bgA]
      rw [if_neg (by omega)]
    simp (disch := omega) only [gp_lit, gp_lt, hj, if_true, e', nI_add, pk_mul, gp_rd, gp_wr, r, gp_bgS hj]
  · show L_X4_begin_2 n _ (f + 1) (nI 10) (gp_bgA m d 10) = _
    rw [L_X4_begin_2]
    simp (disch := omega) only [gp_lit, gp_lt, Nat.lt_irrefl, if_false, e', nI_add, gp_pf, gp_bg]
theorem gp_bgr {m : gn_M} {d j : Nat} (hj : j < 10) : (gp_bg m d).1 48 (10 * (d + 1) + j) = m.1 48 (10 * d + j) := by
  unfold gp_bg
  rw [gp_une (by decide)]
  dsimp only [gp_bgA]
  rw [if_pos ⟨rfl, by omega, by omega⟩]
  rw [show 10 * (d + 1) + j - 10 = 10 * d + j by omega]
theorem gp_bgl {m : gn_M} {d k : Nat} (hk : k < 10 * (d + 1)) : (gp_bg m d).1 48 k = m.1 48 k := by
  unfold gp_bg
  rw [gp_une (by decide)]
  dsimp only [gp_bgA]
  rw [if_neg (by omega)]
theorem gp_bgo {m : gn_M} {d k : Nat} (h : k ≠ 48) (h' : k ≠ 38) : (gp_bg m d).1 k = m.1 k := by
  unfold gp_bg
  rw [gp_une h', gp_bgf h]
section GPB
variable {m : gn_M} {g d : Nat} {K Wt T : Nat → Nat} {G l S : Nat}
theorem gp_bgM (h : gp_cM m g d K Wt T G l S) (hg : g ≤ 7) : gp_cM (gp_bg m d) g (d + 1) K Wt T G l S := by
  refine ⟨⟨?_, ?_, ?_, ?_, ?_⟩, fun i hi => ⟨?_, ?_, ?_⟩⟩
  · unfold gp_bg; rw [gp_u, if_neg (by decide), gp_bgf (by decide)]; exact h.1.1
  · unfold gp_bg; rw [gp_u, if_pos (by decide)]
  · rw [gp_bgr (by decide)]; exact h.1.2.2.1
  · rw [gp_bgr (by decide)]; exact h.1.2.2.2.1
  · rw [gp_bgr (by decide)]; exact h.1.2.2.2.2
  · rw [gp_bgo (by decide) (by decide)]; exact (h.2 i hi).1
  · rw [gp_bgo (by decide) (by decide)]; exact (h.2 i hi).2.1
  · rw [gp_bgr (by omega)]; exact (h.2 i hi).2.2
theorem gp_wT (h : gp_cM m g d K Wt T G l S) (hg : g ≤ 7) {i t : Nat} (hi : i < g) : gp_cM (gn_up m 48 (10 * d + i) (nI t)) g d K Wt (fun x => if x = i then t else T x) G l S := by
  refine ⟨⟨?_, ?_, ?_, ?_, ?_⟩, fun x hx => ⟨?_, ?_, ?_⟩⟩
  · rw [gp_une (by decide)]; exact h.1.1
  · rw [gp_une (by decide)]; exact h.1.2.1
  · rw [gp_u, if_neg (by omega)]; exact h.1.2.2.1
  · rw [gp_u, if_neg (by omega)]; exact h.1.2.2.2.1
  · rw [gp_u, if_neg (by omega)]; exact h.1.2.2.2.2
  · rw [gp_une (by decide)]; exact (h.2 x hx).1
  · rw [gp_une (by decide)]; exact (h.2 x hx).2.1
  · rw [gp_u]
    by_cases e : x = i
    · rw [if_pos ⟨rfl, by omega⟩]; simp [e]
    · rw [if_neg (by omega)]; simp [e, (h.2 x hx).2.2]
theorem gp_wS (h : gp_cM m g d K Wt T G l S) (hg : g ≤ 7) {s : Nat} : gp_cM (gn_up m 48 (10 * d + 9) (nI s)) g d K Wt T G l s := by
  refine ⟨⟨?_, ?_, ?_, ?_, ?_⟩, fun x hx => ⟨?_, ?_, ?_⟩⟩
  · rw [gp_une (by decide)]; exact h.1.1
  · rw [gp_une (by decide)]; exact h.1.2.1
  · rw [gp_u, if_neg (by omega)]; exact h.1.2.2.1
  · rw [gp_u, if_neg (by omega)]; exact h.1.2.2.2.1
  · rw [gp_u, if_pos ⟨rfl, rfl⟩]
  · rw [gp_une (by decide)]; exact (h.2 x hx).1
  · rw [gp_une (by decide)]; exact (h.2 x hx).2.1
  · rw [gp_u, if_neg (by omega)]; exact (h.2 x hx).2.2
theorem gp_wG (h : gp_cM m g d K Wt T G l S) (hg : g ≤ 7) {s i : Nat} (hi : i < 7) : gp_cM (gn_up (gn_up m 48 (10 * d + 7) (nI s)) 48 (10 * d + 8) (nI i)) g d K Wt T s i S := by
  refine ⟨⟨?_, ?_, ?_, ?_, ?_⟩, fun x hx => ⟨?_, ?_, ?_⟩⟩
  · rw [gp_une (by decide), gp_une (by decide)]; exact h.1.1
  · rw [gp_une (by decide), gp_une (by decide)]; exact h.1.2.1
  · rw [gp_u, if_neg (by omega), gp_u, if_pos ⟨rfl, rfl⟩]
  · rw [gp_u, if_pos ⟨rfl, rfl⟩, gp_lI, if_pos hi]
  · rw [gp_u, if_neg (by omega), gp_u, if_neg (by omega)]; exact h.1.2.2.2.2
  · rw [gp_une (by decide), gp_une (by decide)]; exact (h.2 x hx).1
  · rw [gp_une (by decide), gp_une (by decide)]; exact (h.2 x hx).2.1
  · rw [gp_u, if_neg (by omega), gp_u, if_neg (by omega)]; exact (h.2 x hx).2.2
end GPB
theorem gp_sub4 {a b x y : Nat} (h : a + y = b + x) : nI a - nI b = nI x - nI y := by
  have e : nI a + nI y = nI b + nI x := by rw [nI_add, nI_add, h]
  grind
