/-- Math.max -/
theorem gr_max {own : String} {cc : ByteArray} {nL F Lc : Nat} {rt : Option FieldType} {xo : Option (Nat × (Nat → Int32))} {pc : Nat} {lv : List (Option Value)} {rest : List Value} {σ : gn_M} {ρ : Option Value} {σf : gn_M} {idx : Nat} {x y : Int32} (hl : Cond.methodLink own idx Lib.Math.max.name ∈ gn_T) (hw : Cond.static Lib.Math.max.name ∈ gn_T ∧ Cond.initialized "java/lang/Math" ∈ gn_T ∧ Cond.code Lib.Math.max.name Lib.Math.max.code 2 (some .int) ∈ gn_T) (hR : 1 ≤ F ∧ (rest.map fun v => v.category).sum + 13 ≤ Lc) (d : decode cc pc = .ok (.invokestatic idx, 3)) (k : gn_Go own cc nL F Lc rt xo (pc + 3) lv (.int (if x < y then y else x) :: rest) σ ρ σf) : gn_Go own cc nL F Lc rt xo pc lv (.int y :: .int x :: rest) σ ρ σf := by
  refine ⟨k.1, ?_⟩
  intro p l e R s m args below meth c cells slots Q D cy ad H locs ls hF hV hP hS hL hret
  obtain ⟨hx, hb, hml, hown, hts, hfr, hlo, hce, hsl⟩ := id hF
  exact va_mmax hx hb (hml.trans hL.1.symm) hown (hts _ hl) (hts _ hw.1) (hts _ hw.2.1) (hts _ hw.2.2) (Nat.le_trans hR.1 hfr) (by rw [gn_sum]; exact Nat.le_trans hR.2 hlo) hce hsl d (k.2 p l e R s m args below meth c cells slots Q D cy ad H locs ls hF hV hP hS hL hret)
