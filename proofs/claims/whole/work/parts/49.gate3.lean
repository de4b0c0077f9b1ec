/-! PURE: gate: the class -/
theorem gp_gatC {n : Nat} (hn : 5000 ≤ n) {m : gn_M} {a z : Nat} {P : List Nat} {K Wt F : Nat → Nat} (hz : z ≤ 60) (ha : a ≠ 7 ∧ a ≠ 27 ∧ a ≠ 28 ∧ a ≠ 29 ∧ a ≠ 31) (hP : gp_prs (m.1 a) z 61 0 0 = (-9, P)) (h7 : P.length ≤ 7) (hK : ∀ j (h : j < P.length), K j < 6 ∧ gp_kI (m.1 a P[j]) = nI (K j)) (hW : ∀ j (h : j < P.length), m.1 a (P[j] + 1) - nI 48 = nI (Wt j)) (hF : ∀ j (h : j < P.length), F j ≤ 9 ∧ m.1 a (P[j] + 2) - nI 48 = nI (F j)) : ∃ M, f_X0_gather n m a (nI z) = some M ∧ gp_cC M P.length 0 K Wt (fun j => gp_t0 P.length (F j) j) 0 7 0 ∧ (∀ j, j < P.length → M.1 29 j = nI (gp_t0 P.length (F j) j)) ∧ (∀ k, k ≠ 7 → k ≠ 27 → k ≠ 28 → k ≠ 29 → k ≠ 30 → k ≠ 31 → M.1 k = m.1 k) ∧ M.2 = m.2 := by
  obtain ⟨m1, hm1⟩ : ∃ x, x = gp_rg (gn_up m 7 6 (nI 0)) 31 0 6 (nI 0) := ⟨_, rfl⟩
  have f1 : ∀ k, k ≠ 7 → k ≠ 31 → m1.1 k = m.1 k := fun k k1 k2 => by rw [hm1, gp_rg_ne k2, gp_une k1]
  have e6 : m1.1 7 6 = nI 0 := by rw [hm1, gp_rg_ne (by decide), gp_u, if_pos ⟨rfl, rfl⟩]
  have e31 : ∀ q, q < 6 → m1.1 31 q = nI (gp_bs1 (fun i => K i == q) 0) := fun q hq => by rw [hm1, gp_rg_in (by omega) (by omega)]; rfl
  obtain ⟨kk, hkk⟩ : ∃ kk : gn_M → Option gn_M, kk = fun m13 => L_X0_gather_134 n (fun m16 => gn_pf m16 7 7 (nI 0) (fun m17 => (f_X0_startAnew m17).bind (fun x18 => some x18))) n (nI 0) m13 := ⟨_, rfl⟩
  have g := gp_gaL hn (X := m.1 a) (K := K) (k := kk) hz ha 60 0 0 n 61 m1 (by omega) (by omega) (by omega) (by omega) (by omega) (fun j _ => by rw [f1 a ha.1 ha.2.2.2.2]) e6 (by rw [hP]) (by
    rw [hP]
    intro j hj
    rw [Nat.zero_add]
    exact hK j hj) e31
  rw [hP] at g
  obtain ⟨M', z1, ⟨z2, z3, z4, z5, z6, z7⟩, z8⟩ := g
  rw [Nat.zero_add] at z2
  have b29 : ∀ j, j < P.length → F j ≤ 9 ∧ M'.1 29 j = nI (2 ^ F j) := fun j hj => by
    have y := (z7 j hj).2.2
    rw [Nat.zero_add, (hF j hj).2] at y
    exact ⟨(hF j hj).1, y.trans (gp_sh (by have := (hF j hj).1; omega))⟩
  have y134 := gp_g1L (k := fun m16 => gn_pf m16 7 7 (nI 0) (fun m17 => (f_X0_startAnew m17).bind (fun x18 => some x18))) hn h7 z2 b29
  obtain ⟨A, hA⟩ : ∃ x, x = gp_g1A M' (fun j => gp_t0 P.length (F j) j) P.length := ⟨_, rfl⟩
  rw [← hA] at y134
  have fA : ∀ k, k ≠ 29 → A.1 k = M'.1 k := fun k hk => by rw [hA]; funext b; simp [gp_g1A, hk]
  have A29 : ∀ j, j < P.length → A.1 29 j = nI (gp_t0 P.length (F j) j) := fun j hj => by rw [hA]; simp [gp_g1A, hj]
  obtain ⟨M, hM⟩ : ∃ x, x = gn_up (gn_up (gn_up (gn_cp (gn_up A 7 7 (nI 0)) 29 0 30 0 7) 7 8 (nI 0)) 7 9 (-nI 9)) 7 10 (nI 0) := ⟨_, rfl⟩
  have fM : ∀ k, k ≠ 7 → k ≠ 30 → M.1 k = A.1 k := fun k k1 k2 => by
    rw [hM, gp_une k1, gp_une k1, gp_une k1]
    have : (gn_cp (gn_up A 7 7 (nI 0)) 29 0 30 0 7).1 k = (gn_up A 7 7 (nI 0)).1 k := by funext b; simp [gn_cp, k2]
    rw [this, gp_une k1]
  have M7 : ∀ j, j ≠ 8 → j ≠ 9 → j ≠ 10 → M.1 7 j = (gn_up A 7 7 (nI 0)).1 7 j := fun j j1 j2 j3 => by
    rw [hM, gp_u, if_neg (by omega), gp_u, if_neg (by omega), gp_u, if_neg (by omega)]
    simp [gn_cp]
  have M30 : ∀ j, j < 7 → M.1 30 j = A.1 29 j := fun j hj => by
    rw [hM, gp_une (by decide), gp_une (by decide), gp_une (by decide)]
    simp [gn_cp, va_cpy, hj, gp_u]
  refine ⟨M, ?_, ⟨⟨?_, ?_, ?_, ?_, ?_⟩, fun j hj => ⟨?_, ?_, ?_⟩, fun c hc => ?_⟩, fun j hj => ?_, fun k k1 k2 k3 k4 k5 k6 => ?_, ?_⟩
  · have e0 : f_X0_gather n m a (nI z) = L_X0_gather_15 n a (nI z) kk n (nI 0) m1 := by
      rw [hkk, hm1]
      simp (disch := omega) only [f_X0_gather, gp_lit, gp_pf, gp_fill, Option.bind_some]
    rw [e0, z1, hkk]
    show L_X0_gather_134 n _ n (nI 0) M' = _
    rw [y134, hM]
    simp only [gp_pf, f_X0_startAnew, gp_lit, gp_ac7, Option.bind_some]
  · rw [M7 6 (by decide) (by decide) (by decide), gp_u, if_neg (by decide), fA 7 (by decide)]; exact z2
  · rw [M7 7 (by decide) (by decide) (by decide), gp_u, if_pos ⟨rfl, rfl⟩]
  · rw [hM, gp_u, if_neg (by decide), gp_u, if_neg (by decide), gp_u, if_pos ⟨rfl, rfl⟩]
  · rw [hM, gp_u, if_neg (by decide), gp_u, if_pos ⟨rfl, rfl⟩]; rfl
  · rw [hM, gp_u, if_pos ⟨rfl, rfl⟩]
  · have y := (z7 j hj).1
    rw [Nat.zero_add] at y
    rw [fM 27 (by decide) (by decide), fA 27 (by decide), y]; exact (hK j hj).2
  · have y := (z7 j hj).2.1
    rw [Nat.zero_add] at y
    rw [fM 28 (by decide) (by decide), fA 28 (by decide), y]; exact hW j hj
  · rw [M30 j (by omega)]; exact A29 j hj
  · rw [fM 31 (by decide) (by decide), fA 31 (by decide), z8 c hc, Nat.zero_add]
  · rw [fM 29 (by decide) (by decide)]; exact A29 j hj
  · rw [fM k k1 k5, fA k k4, z4 k k1 k2 k3 k4 k6, f1 k k1 k6]
  · rw [hM, gp_u2, gp_u2, gp_u2]
    show A.2 = m.2
    rw [hA]
    show M'.2 = m.2
    rw [z5, hm1]
    rfl
