/-! ROWS OF THE JUDGEMENT: memory and calls. The pure words for what may fail: an index beyond, a divisor 0 -/
def gn_rd {α : Type} (σ : gn_M) (k n : Nat) (i : Int32) (K : Int32 → Option α) : Option α := if i < 0 ∨ n ≤ i.toNatClampNeg then none else K (σ.1 k i.toNatClampNeg)
def gn_wr {α : Type} (σ : gn_M) (k n : Nat) (i x : Int32) (K : gn_M → Option α) : Option α := if i < 0 ∨ n ≤ i.toNatClampNeg then none else K (gn_up σ k i.toNatClampNeg x)
def gn_ra {α : Type} (B n : Nat) (i : Int32) (K : Nat → Option α) : Option α := if i < 0 ∨ n ≤ i.toNatClampNeg then none else K (B + i.toNatClampNeg)
def gn_rl {α : Type} (i : Int32) (K : Int32 → Option α) : Option α := if i < 0 ∨ 6 ≤ i.toNatClampNeg then none else K (gn_let i.toNatClampNeg)
def gn_rx {α : Type} (L : Nat) (xs : Nat → Int32) (i : Int32) (K : Int32 → Option α) : Option α := if i < 0 ∨ L ≤ i.toNatClampNeg then none else K (xs i.toNatClampNeg)
def gn_ac {α : Type} (σ : gn_M) (k0 n0 : Nat) (sp : Int32) (k1 n1 : Nat) (dp n : Int32) (K : gn_M → Option α) : Option α := if sp < 0 ∨ dp < 0 ∨ n < 0 ∨ n0 < sp.toNatClampNeg + n.toNatClampNeg ∨ n1 < dp.toNatClampNeg + n.toNatClampNeg then none else K (gn_cp σ k0 sp.toNatClampNeg k1 dp.toNatClampNeg n.toNatClampNeg)
def gn_dv {α : Type} (y : Int32) (K : Option α) : Option α := if y = 0 then none else K
def gn_dvL {α : Type} (y : Int64) (K : Option α) : Option α := if y = 0 then none else K
/-- a join of several ways -/
def gn_jn {α β : Type} (K : α → Option β) (t : (α → Option β) → Option β) : Option β := t K
theorem gn_jnE {α β : Type} {K : α → Option β} {t : (α → Option β) → Option β} {v : β} {G : Prop} {P : α → Prop} (h : gn_jn K t = some v) (rest : ∀ x, K x = some v → P x) (k : ∀ J : α → Option β, (∀ x, J x = some v → P x) → t J = some v → G) : G := k K rest h
theorem gn_bd {α β : Type} {o : Option α} {K : α → Option β} {v : β} (h : o.bind K = some v) : ∃ x, o = some x ∧ K x = some v := Option.bind_eq_some_iff.mp h
def gn_Fd (k ci j : Nat) (fd : Nat ⊕ Bool) (C : String) (T : u_T) (N : Nat) (ty0 : Nat → FieldType) : Prop :=
  vwCl[ci]? = some (C, T, N) ∧ (∀ w ∈ u_ws C T N, w ∈ gn_T) ∧ (∀ k, k < N → parseFieldDescriptor (T k).2.2.1 = some (ty0 k)) ∧ (∀ a, a < N → ∀ b, b < N → a ≠ b → (T a).2.1 ≠ (T b).2.1) ∧ (∃ fs, gn_S[k]? = some (.inr (.inr (ci, fs))) ∧ fs[j]? = some fd) ∧ j < N ∧ (T j).1 = C
theorem gn_E_putI {cy : Nat → ClassId} {ad : Nat → Nat} {σ : gn_M} {k ci j : Nat} {fs : List (Nat ⊕ Bool)} {x : Int32} (h : fs[j]? = some (.inr false)) : gn_E cy ad (gn_up σ k j x) k (.inr (.inr (ci, fs))) = .inr (ci, (fs.mapIdx (fun j f => gn_F ad σ k j f)).set j (.int x)) := by
  simp only [gn_E]
  congr 2
  apply List.ext_getElem?
  intro i
  by_cases hi : i = j
  · subst hi
    rw [List.getElem?_set_self (by rw [List.length_mapIdx]; exact (List.getElem?_eq_some_iff.mp h).1), List.getElem?_mapIdx, h]
    simp [gn_F, gn_up]
  · rw [List.getElem?_set_ne (Ne.symm hi), List.getElem?_mapIdx, List.getElem?_mapIdx]
    congr 1
    funext f
    match f with
    | .inl t => rfl
    | .inr false => simp [gn_F, gn_up, hi]
    | .inr true => simp [gn_F, gn_up]
theorem gn_E_putL {cy : Nat → ClassId} {ad : Nat → Nat} {σ : gn_M} {k ci j : Nat} {fs : List (Nat ⊕ Bool)} {x : Int64} (h : fs[j]? = some (.inr true)) : gn_E cy ad (gn_upL σ k j x) k (.inr (.inr (ci, fs))) = .inr (ci, (fs.mapIdx (fun j f => gn_F ad σ k j f)).set j (.long x)) := by
  simp only [gn_E]
  congr 2
  apply List.ext_getElem?
  intro i
  by_cases hi : i = j
  · subst hi
    rw [List.getElem?_set_self (by rw [List.length_mapIdx]; exact (List.getElem?_eq_some_iff.mp h).1), List.getElem?_mapIdx, h]
    simp [gn_F, gn_upL]
  · rw [List.getElem?_set_ne (Ne.symm hi), List.getElem?_mapIdx, List.getElem?_mapIdx]
    congr 1
    funext f
    match f with
    | .inl t => rfl
    | .inr false => simp [gn_F, gn_upL]
    | .inr true => simp [gn_F, gn_upL, hi]
theorem gn_GI {ws : List Cond} (h : ∀ w ∈ ws, w ∈ gn_T) : GoodIn gn_T ws := fun w hw => ⟨h w hw, good_of_word (List.mem_filter.mp (h w hw)).2⟩
/-- a method that can be called: its code, its class, its name, how many parameters -/
def gn_My (y : MethodName) (cc : ByteArray) (maxL : Nat) (ret : Option FieldType) (n : Nat) : Prop := Cond.code y cc maxL ret ∈ gn_T ∧ Cond.initialized y.cls ∈ gn_T ∧ (y.cls ≠ "java/lang/invoke/MethodHandle" ∧ y.cls ≠ "java/lang/invoke/VarHandle" ∧ (parseMethodDescriptor y.desc).map (fun d => d.parameters.length) = some n)
def gn_Mv (y : MethodName) : Prop := Cond.instanceMethod y ∈ gn_T ∧ Cond.selects y.cls y y ∈ gn_T
/-- a cell that is an object of a kind -/
def gn_Ob (k : Nat) (C : String) : Prop := ∃ (ci : Nat) (fs : List (Nat ⊕ Bool)) (T : u_T) (N : Nat), gn_S[k]? = some (.inr (.inr (ci, fs))) ∧ vwCl[ci]? = some (C, T, N)
section GNM
variable {own : String} {cc : ByteArray} {nL F Lc : Nat} {rt : Option FieldType} {xo : Option (Nat × (Nat → Int32))} {pc : Nat} {lv lv' : List (Option Value)} {st rest : List Value} {σ : gn_M} {ρ : Option Value} {σf : gn_M}
theorem gn_get {k ci j idx : Nat} {fd : Nat ⊕ Bool} {C : String} {T : u_T} {N : Nat} {ty0 : Nat → FieldType} {v : Value} (hv : ∀ ad, gn_F ad σ k j fd = gn_tr ad v) (q : gn_Fd k ci j fd C T N ty0) (hl : Cond.fieldLink own idx C (T j).2.1 (T j).2.2.1 ∈ gn_T) (d : decode cc pc = .ok (.getfield idx, 3)) (kk : gn_Go own cc nL F Lc rt xo (pc + 3) lv (v :: rest) σ ρ σf) : gn_Go own cc nL F Lc rt xo pc lv (.ref k :: rest) σ ρ σf := by
  refine ⟨kk.1, ?_⟩
  intro p l e R s m args below meth c cells slots Q D cy ad H locs ls hF hV hP hS hL hret
  obtain ⟨hc, hin, hty, hnm, ⟨fs, hs, hj⟩, hjN, hC⟩ := q
  exact va_get (D := D) (v := gn_F ad σ k j fd) hF.1 hF.2.1 hF.2.2.2.2.1 hin hF.2.2.2.1 hV.2.1 hP k (gn_W_at hs) hc j hjN (hF.2.2.2.2.1 _ hl) (fun x h => by rw [hC] at h; exact h) (by rw [List.getElem?_mapIdx, hj]; rfl) d (by rw [hv ad]; exact kk.2 p l e R s m args below meth c cells slots Q D cy ad H locs ls hF hV hP hS hL hret)
theorem gn_getN {k ci j idx : Nat} {fd : Nat ⊕ Bool} {C host : String} {T : u_T} {N : Nat} {ty0 : Nat → FieldType} {v : Value} (hv : ∀ ad, gn_F ad σ k j fd = gn_tr ad v) (q : gn_Fd k ci j fd C T N ty0) (hl : Cond.fieldLinkNest own idx C (T j).2.1 (T j).2.2.1 host ∈ gn_N) (d : decode cc pc = .ok (.getfield idx, 3)) (kk : gn_Go own cc nL F Lc rt xo (pc + 3) lv (v :: rest) σ ρ σf) : gn_Go own cc nL F Lc rt xo pc lv (.ref k :: rest) σ ρ σf := by
  refine ⟨kk.1, ?_⟩
  intro p l e R s m args below meth c cells slots Q D cy ad H locs ls hF hV hP hS hL hret
  obtain ⟨hc, hin, hty, hnm, ⟨fs, hs, hj⟩, hjN, hC⟩ := q
  exact va_getN (D := D) (v := gn_F ad σ k j fd) hF.1 hF.2.1 hF.2.2.2.2.1 hin hF.2.2.2.1 hV.2.1 hP k (gn_W_at hs) hc j hjN (va_Nw.use rfl (hV.1 _ hl)) (fun x h => by rw [hC] at h; exact h) (by rw [List.getElem?_mapIdx, hj]; rfl) d (by rw [hv ad]; exact kk.2 p l e R s m args below meth c cells slots Q D cy ad H locs ls hF hV hP hS hL hret)
theorem gr_getI {k ci j idx : Nat} {C : String} {T : u_T} {N : Nat} {ty0 : Nat → FieldType} (q : gn_Fd k ci j (.inr false) C T N ty0) (hl : Cond.fieldLink own idx C (T j).2.1 (T j).2.2.1 ∈ gn_T) (d : decode cc pc = .ok (.getfield idx, 3)) (kk : gn_Go own cc nL F Lc rt xo (pc + 3) lv (.int (σ.1 k j) :: rest) σ ρ σf) : gn_Go own cc nL F Lc rt xo pc lv (.ref k :: rest) σ ρ σf := gn_get (fun _ => rfl) q hl d kk
theorem gr_getL {k ci j idx : Nat} {C : String} {T : u_T} {N : Nat} {ty0 : Nat → FieldType} (q : gn_Fd k ci j (.inr true) C T N ty0) (hl : Cond.fieldLink own idx C (T j).2.1 (T j).2.2.1 ∈ gn_T) (d : decode cc pc = .ok (.getfield idx, 3)) (kk : gn_Go own cc nL F Lc rt xo (pc + 3) lv (.long (σ.2 k j) :: rest) σ ρ σf) : gn_Go own cc nL F Lc rt xo pc lv (.ref k :: rest) σ ρ σf := gn_get (fun _ => rfl) q hl d kk
theorem gr_getR {k ci j idx t : Nat} {C : String} {T : u_T} {N : Nat} {ty0 : Nat → FieldType} (q : gn_Fd k ci j (.inl t) C T N ty0) (hl : Cond.fieldLink own idx C (T j).2.1 (T j).2.2.1 ∈ gn_T) (d : decode cc pc = .ok (.getfield idx, 3)) (kk : gn_Go own cc nL F Lc rt xo (pc + 3) lv (.ref t :: rest) σ ρ σf) : gn_Go own cc nL F Lc rt xo pc lv (.ref k :: rest) σ ρ σf := gn_get (fun _ => rfl) q hl d kk
theorem gr_getIN {k ci j idx : Nat} {C host : String} {T : u_T} {N : Nat} {ty0 : Nat → FieldType} (q : gn_Fd k ci j (.inr false) C T N ty0) (hl : Cond.fieldLinkNest own idx C (T j).2.1 (T j).2.2.1 host ∈ gn_N) (d : decode cc pc = .ok (.getfield idx, 3)) (kk : gn_Go own cc nL F Lc rt xo (pc + 3) lv (.int (σ.1 k j) :: rest) σ ρ σf) : gn_Go own cc nL F Lc rt xo pc lv (.ref k :: rest) σ ρ σf := gn_getN (fun _ => rfl) q hl d kk
theorem gr_getRN {k ci j idx t : Nat} {C host : String} {T : u_T} {N : Nat} {ty0 : Nat → FieldType} (q : gn_Fd k ci j (.inl t) C T N ty0) (hl : Cond.fieldLinkNest own idx C (T j).2.1 (T j).2.2.1 host ∈ gn_N) (d : decode cc pc = .ok (.getfield idx, 3)) (kk : gn_Go own cc nL F Lc rt xo (pc + 3) lv (.ref t :: rest) σ ρ σf) : gn_Go own cc nL F Lc rt xo pc lv (.ref k :: rest) σ ρ σf := gn_getN (fun _ => rfl) q hl d kk
theorem gr_putI {k ci j idx : Nat} {C : String} {T : u_T} {N : Nat} {ty0 : Nat → FieldType} {x : Int32} (q : gn_Fd k ci j (.inr false) C T N ty0) (hf : (T j).2.2.2 = false) (ht : ty0 j = .int) (hl : Cond.fieldLink own idx C (T j).2.1 (T j).2.2.1 ∈ gn_T) (d : decode cc pc = .ok (.putfield idx, 3)) (kk : gn_Go own cc nL F Lc rt xo (pc + 3) lv rest (gn_up σ k j x) ρ σf) : gn_Go own cc nL F Lc rt xo pc lv (.int x :: .ref k :: rest) σ ρ σf := by
  refine ⟨kk.1, ?_⟩
  intro p l e R s m args below meth c cells slots Q D cy ad H locs ls hF hV hP hS hL hret
  obtain ⟨hc, hin, hty, hnm, ⟨fs, hs, hj⟩, hjN, hC⟩ := q
  refine va_put (D := D) (v := .int x) (ty := .int) hF.1 hF.2.1 hF.2.2.2.2.1 hin ty0 hty hnm hF.2.2.2.1 hV.2.1 hP (gn_D hV.2.2.2.2.1) hS k (gn_W_at hs) hc j hjN (hF.2.2.2.2.1 _ hl) (fun x h => by rw [hC] at h; exact h) hf (by rw [hty j hjN, ht]) rfl rfl (by rw [List.length_mapIdx]; exact (List.getElem?_eq_some_iff.mp hj).1) d (fun H1 locs1 hP1 _ hS1 => ?_)
  rw [← gn_E_putI (cy := cy) hj, gn_W_set hs (fun j hj => gn_up_1 hj) (fun _ _ => rfl)] at hP1
  exact kk.2 p l e R s m args below meth c cells slots Q D cy ad H1 locs1 ls hF hV hP1 hS1 hL hret
theorem gr_putL {k ci j idx : Nat} {C : String} {T : u_T} {N : Nat} {ty0 : Nat → FieldType} {x : Int64} (q : gn_Fd k ci j (.inr true) C T N ty0) (hf : (T j).2.2.2 = false) (ht : ty0 j = .long) (hl : Cond.fieldLink own idx C (T j).2.1 (T j).2.2.1 ∈ gn_T) (d : decode cc pc = .ok (.putfield idx, 3)) (kk : gn_Go own cc nL F Lc rt xo (pc + 3) lv rest (gn_upL σ k j x) ρ σf) : gn_Go own cc nL F Lc rt xo pc lv (.long x :: .ref k :: rest) σ ρ σf := by
  refine ⟨kk.1, ?_⟩
  intro p l e R s m args below meth c cells slots Q D cy ad H locs ls hF hV hP hS hL hret
  obtain ⟨hc, hin, hty, hnm, ⟨fs, hs, hj⟩, hjN, hC⟩ := q
  refine va_put (D := D) (v := .long x) (ty := .long) hF.1 hF.2.1 hF.2.2.2.2.1 hin ty0 hty hnm hF.2.2.2.1 hV.2.1 hP (gn_D hV.2.2.2.2.1) hS k (gn_W_at hs) hc j hjN (hF.2.2.2.2.1 _ hl) (fun x h => by rw [hC] at h; exact h) hf (by rw [hty j hjN, ht]) rfl rfl (by rw [List.length_mapIdx]; exact (List.getElem?_eq_some_iff.mp hj).1) d (fun H1 locs1 hP1 _ hS1 => ?_)
  rw [← gn_E_putL (cy := cy) hj, gn_W_set (σ := σ) (σ' := gn_upL σ k j x) hs (fun _ _ => rfl) (fun j hj => by funext b; simp [gn_upL, hj])] at hP1
  exact kk.2 p l e R s m args below meth c cells slots Q D cy ad H1 locs1 ls hF hV hP1 hS1 hL hret
theorem gr_putIN {k ci j idx : Nat} {C host : String} {T : u_T} {N : Nat} {ty0 : Nat → FieldType} {x : Int32} (q : gn_Fd k ci j (.inr false) C T N ty0) (hf : (T j).2.2.2 = false) (ht : ty0 j = .int) (hl : Cond.fieldLinkNest own idx C (T j).2.1 (T j).2.2.1 host ∈ gn_N) (d : decode cc pc = .ok (.putfield idx, 3)) (kk : gn_Go own cc nL F Lc rt xo (pc + 3) lv rest (gn_up σ k j x) ρ σf) : gn_Go own cc nL F Lc rt xo pc lv (.int x :: .ref k :: rest) σ ρ σf := by
  refine ⟨kk.1, ?_⟩
  intro p l e R s m args below meth c cells slots Q D cy ad H locs ls hF hV hP hS hL hret
  obtain ⟨hc, hin, hty, hnm, ⟨fs, hs, hj⟩, hjN, hC⟩ := q
  refine va_putN (D := D) (v := .int x) (ty := .int) hF.1 hF.2.1 hF.2.2.2.2.1 hin ty0 hty hnm hF.2.2.2.1 hV.2.1 hP (gn_D hV.2.2.2.2.1) hS k (gn_W_at hs) hc j hjN (va_Nw.use rfl (hV.1 _ hl)) (fun x h => by rw [hC] at h; exact h) hf (by rw [hty j hjN, ht]) rfl rfl (by rw [List.length_mapIdx]; exact (List.getElem?_eq_some_iff.mp hj).1) d (fun H1 locs1 hP1 _ hS1 => ?_)
  rw [← gn_E_putI (cy := cy) hj, gn_W_set hs (fun j hj => gn_up_1 hj) (fun _ _ => rfl)] at hP1
  exact kk.2 p l e R s m args below meth c cells slots Q D cy ad H1 locs1 ls hF hV hP1 hS1 hL hret
theorem gr_iaload {α : Type} {K : Int32 → Option α} {v : α} {k n : Nat} {i : Int32} (hs : gn_S[k]? = some (.inl (0, n))) (d : decode cc pc = .ok (.iaload, 1)) (h : gn_rd σ k n i K = some v) (kk : vp_in i n → K (σ.1 k i.toNatClampNeg) = some v → gn_Go own cc nL F Lc rt xo (pc + 1) lv (.int (σ.1 k i.toNatClampNeg) :: rest) σ ρ σf) : gn_Go own cc nL F Lc rt xo pc lv (.int i :: .ref k :: rest) σ ρ σf := by
  unfold gn_rd at h
  split at h
  · cases h
  · next hin =>
    have kk := kk hin h
    refine ⟨kk.1, ?_⟩
    intro p l e R s m args below meth c cells slots Q D cy ad H locs ls hF hV hP hS hL hret
    exact va_iald hF.1 hF.2.1 hV.2.1 hP k 0 (gn_W_at hs) rfl hin d (kk.2 p l e R s m args below meth c cells slots Q D cy ad H locs ls hF hV hP hS hL hret)
theorem gr_baload {α : Type} {K : Int32 → Option α} {v : α} {k n : Nat} {i : Int32} (hs : gn_S[k]? = some (.inl (1, n))) (d : decode cc pc = .ok (.baload, 1)) (h : gn_rd σ k n i K = some v) (kk : vp_in i n → K (σ.1 k i.toNatClampNeg) = some v → gn_Go own cc nL F Lc rt xo (pc + 1) lv (.int (σ.1 k i.toNatClampNeg) :: rest) σ ρ σf) : gn_Go own cc nL F Lc rt xo pc lv (.int i :: .ref k :: rest) σ ρ σf := by
  unfold gn_rd at h
  split at h
  · cases h
  · next hin =>
    have kk := kk hin h
    refine ⟨kk.1, ?_⟩
    intro p l e R s m args below meth c cells slots Q D cy ad H locs ls hF hV hP hS hL hret
    exact va_bald hF.1 hF.2.1 hV.2.1 hP k 1 (gn_W_at hs) rfl hin d (kk.2 p l e R s m args below meth c cells slots Q D cy ad H locs ls hF hV hP hS hL hret)
theorem gr_zaload {α : Type} {K : Int32 → Option α} {v : α} {k n : Nat} {i : Int32} (hs : gn_S[k]? = some (.inl (2, n))) (d : decode cc pc = .ok (.baload, 1)) (h : gn_rd σ k n i K = some v) (kk : vp_in i n → K (σ.1 k i.toNatClampNeg) = some v → gn_Go own cc nL F Lc rt xo (pc + 1) lv (.int (σ.1 k i.toNatClampNeg) :: rest) σ ρ σf) : gn_Go own cc nL F Lc rt xo pc lv (.int i :: .ref k :: rest) σ ρ σf := by
  unfold gn_rd at h
  split at h
  · cases h
  · next hin =>
    have kk := kk hin h
    refine ⟨kk.1, ?_⟩
    intro p l e R s m args below meth c cells slots Q D cy ad H locs ls hF hV hP hS hL hret
    exact va_zald hF.1 hF.2.1 hV.2.1 hP k 2 (gn_W_at hs) rfl hin d (kk.2 p l e R s m args below meth c cells slots Q D cy ad H locs ls hF hV hP hS hL hret)
theorem gr_iastore {α : Type} {K : gn_M → Option α} {v : α} {k n : Nat} {i x : Int32} (hs : gn_S[k]? = some (.inl (0, n))) (d : decode cc pc = .ok (.iastore, 1)) (h : gn_wr σ k n i x K = some v) (kk : vp_in i n → K (gn_up σ k i.toNatClampNeg x) = some v → gn_Go own cc nL F Lc rt xo (pc + 1) lv rest (gn_up σ k i.toNatClampNeg x) ρ σf) : gn_Go own cc nL F Lc rt xo pc lv (.int x :: .int i :: .ref k :: rest) σ ρ σf := by
  unfold gn_wr at h
  split at h
  · cases h
  · next hin =>
    have kk := kk hin h
    refine ⟨kk.1, ?_⟩
    intro p l e R s m args below meth c cells slots Q D cy ad H locs ls hF hV hP hS hL hret
    refine va_iast hF.1 hF.2.1 hV.2.1 hP (gn_D hV.2.2.2.2.1) hS k 0 (gn_W_at hs) rfl hin d (fun H1 locs1 hP1 _ hS1 => ?_)
    rw [← gn_up_s] at hP1
    have hP1 : va_P D vwCl ((gn_W cy ad σ).set k (ad k, gn_E cy ad (gn_up σ k i.toNatClampNeg x) k (.inl (0, n)))) H1 := hP1
    rw [gn_W_set hs (fun j hj => gn_up_1 hj) (fun _ _ => rfl)] at hP1
    exact kk.2 p l e R s m args below meth c cells slots Q D cy ad H1 locs1 ls hF hV hP1 hS1 hL hret
theorem gr_bastore {α : Type} {K : gn_M → Option α} {v : α} {k n : Nat} {i x : Int32} (hs : gn_S[k]? = some (.inl (1, n))) (d : decode cc pc = .ok (.bastore, 1)) (h : gn_wr σ k n i (vp_nar .byte x) K = some v) (kk : vp_in i n → K (gn_up σ k i.toNatClampNeg (vp_nar .byte x)) = some v → gn_Go own cc nL F Lc rt xo (pc + 1) lv rest (gn_up σ k i.toNatClampNeg (vp_nar .byte x)) ρ σf) : gn_Go own cc nL F Lc rt xo pc lv (.int x :: .int i :: .ref k :: rest) σ ρ σf := by
  unfold gn_wr at h
  split at h
  · cases h
  · next hin =>
    have kk := kk hin h
    refine ⟨kk.1, ?_⟩
    intro p l e R s m args below meth c cells slots Q D cy ad H locs ls hF hV hP hS hL hret
    refine va_bast hF.1 hF.2.1 hV.2.1 hP (gn_D hV.2.2.2.2.1) hS k 1 (gn_W_at hs) rfl hin d (fun H1 locs1 hP1 _ hS1 => ?_)
    rw [← gn_up_s] at hP1
    have hP1 : va_P D vwCl ((gn_W cy ad σ).set k (ad k, gn_E cy ad (gn_up σ k i.toNatClampNeg (vp_nar .byte x)) k (.inl (1, n)))) H1 := hP1
    rw [gn_W_set hs (fun j hj => gn_up_1 hj) (fun _ _ => rfl)] at hP1
    exact kk.2 p l e R s m args below meth c cells slots Q D cy ad H1 locs1 ls hF hV hP1 hS1 hL hret
theorem gr_zastore {α : Type} {K : gn_M → Option α} {v : α} {k n : Nat} {i x : Int32} (hs : gn_S[k]? = some (.inl (2, n))) (d : decode cc pc = .ok (.bastore, 1)) (h : gn_wr σ k n i (vp_nar .boolean x) K = some v) (kk : vp_in i n → K (gn_up σ k i.toNatClampNeg (vp_nar .boolean x)) = some v → gn_Go own cc nL F Lc rt xo (pc + 1) lv rest (gn_up σ k i.toNatClampNeg (vp_nar .boolean x)) ρ σf) : gn_Go own cc nL F Lc rt xo pc lv (.int x :: .int i :: .ref k :: rest) σ ρ σf := by
  unfold gn_wr at h
  split at h
  · cases h
  · next hin =>
    have kk := kk hin h
    refine ⟨kk.1, ?_⟩
    intro p l e R s m args below meth c cells slots Q D cy ad H locs ls hF hV hP hS hL hret
    refine va_zast hF.1 hF.2.1 hV.2.1 hP (gn_D hV.2.2.2.2.1) hS k 2 (gn_W_at hs) rfl hin d (fun H1 locs1 hP1 _ hS1 => ?_)
    rw [← gn_up_s] at hP1
    have hP1 : va_P D vwCl ((gn_W cy ad σ).set k (ad k, gn_E cy ad (gn_up σ k i.toNatClampNeg (vp_nar .boolean x)) k (.inl (2, n)))) H1 := hP1
    rw [gn_W_set hs (fun j hj => gn_up_1 hj) (fun _ _ => rfl)] at hP1
    exact kk.2 p l e R s m args below meth c cells slots Q D cy ad H1 locs1 ls hF hV hP1 hS1 hL hret
theorem gr_aaload {α : Type} {K : Nat → Option α} {v : α} {k B n : Nat} {ts : List Nat} {i : Int32} (hs : gn_S[k]? = some (.inr (.inl ts))) (hn : ts.length = n) (hB : ∀ j, j < n → ts[j]? = some (B + j)) (d : decode cc pc = .ok (.aaload, 1)) (h : gn_ra B n i K = some v) (kk : vp_in i n → K (B + i.toNatClampNeg) = some v → gn_Go own cc nL F Lc rt xo (pc + 1) lv (.ref (B + i.toNatClampNeg) :: rest) σ ρ σf) : gn_Go own cc nL F Lc rt xo pc lv (.int i :: .ref k :: rest) σ ρ σf := by
  unfold gn_ra at h
  split at h
  · cases h
  · next hin =>
    have kq := kk hin h
    refine ⟨kq.1, ?_⟩
    intro p l e R s m args below meth c cells slots Q D cy ad H locs ls hF hV hP hS hL hret
    have hlt : i.toNatClampNeg < n := Nat.not_le.mp fun q => hin (Or.inr q)
    have hcell := hP k _ (gn_W_at hs)
    clear kk
    subst hn
    refine W.aald (v := .ref (ad (B + i.toNatClampNeg))) (ty := .array .int) hF.1 hF.2.1 hcell ((hV.2.1.2 3 _ rfl).1 ts.length (fun j => va_rf ((ts[j]?).map ad))) rfl (fun q => by cases q) (by show ¬ (i < 0 ∨ (arrV _ _ _).slots.size ≤ _); rw [arrV_size]; exact hin) (by show (arrV _ _ _).slots[_]? = _; rw [arrV_read _ _ hlt]; show some (va_rf (Option.map ad ts[i.toNatClampNeg]?)) = _; rw [hB _ hlt]; rfl) rfl rfl d (kq.2 p l e R s m args below meth c cells slots Q D cy ad H locs ls hF hV hP hS hL hret)
theorem gr_alen {k n : Nat} {t : Nat} {v : Int32} (hs : gn_S[k]? = some (.inl (t, n))) (ht : t < 3) (hv : Int32.ofNat n = v) (d : decode cc pc = .ok (.arraylength, 1)) (kk : gn_Go own cc nL F Lc rt xo (pc + 1) lv (.int v :: rest) σ ρ σf) : gn_Go own cc nL F Lc rt xo pc lv (.ref k :: rest) σ ρ σf := by
  refine ⟨kk.1, ?_⟩
  intro p l e R s m args below meth c cells slots Q D cy ad H locs ls hF hV hP hS hL hret
  rcases (show t = 0 ∨ t = 1 ∨ t = 2 by omega) with rfl | rfl | rfl
  · exact va_alen hF.1 hF.2.1 hV.2.1 hP k 0 (gn_W_at hs) rfl hv d (kk.2 p l e R s m args below meth c cells slots Q D cy ad H locs ls hF hV hP hS hL hret)
  · exact va_alen hF.1 hF.2.1 hV.2.1 hP k 1 (gn_W_at hs) rfl hv d (kk.2 p l e R s m args below meth c cells slots Q D cy ad H locs ls hF hV hP hS hL hret)
  · exact va_alen hF.1 hF.2.1 hV.2.1 hP k 2 (gn_W_at hs) rfl hv d (kk.2 p l e R s m args below meth c cells slots Q D cy ad H locs ls hF hV hP hS hL hret)
theorem gr_letters {idx : Nat} (hl : Cond.fieldLink own idx "GateNames" "LETTERS" "[I" ∈ gn_T) (d : decode cc pc = .ok (.getstatic idx, 3)) (kk : gn_Go own cc nL F Lc rt xo (pc + 3) lv (.ref 100 :: rest) σ ρ σf) : gn_Go own cc nL F Lc rt xo pc lv rest σ ρ σf := by
  refine ⟨kk.1, ?_⟩
  intro p l e R s m args below meth c cells slots Q D cy ad H locs ls hF hV hP hS hL hret
  exact va_gets hF.1 hF.2.1 hV.2.2.1 hS hF.2.2.2.1 (hF.2.2.2.2.1 _ hl) (fun x h => h) d (kk.2 p l e R s m args below meth c cells slots Q D cy ad H locs ls hF hV hP hS hL hret)
theorem gr_letter {α : Type} {K : Int32 → Option α} {v : α} {i : Int32} (d : decode cc pc = .ok (.iaload, 1)) (h : gn_rl i K = some v) (kk : vp_in i 6 → K (gn_let i.toNatClampNeg) = some v → gn_Go own cc nL F Lc rt xo (pc + 1) lv (.int (gn_let i.toNatClampNeg) :: rest) σ ρ σf) : gn_Go own cc nL F Lc rt xo pc lv (.int i :: .ref 100 :: rest) σ ρ σf := by
  unfold gn_rl at h
  split at h
  · cases h
  · next hin =>
    have kk := kk hin h
    refine ⟨kk.1, ?_⟩
    intro p l e R s m args below meth c cells slots Q D cy ad H locs ls hF hV hP hS hL hret
    exact va_ti hF.1 hF.2.1 hV.2.2.2.1 hS hin rfl d (kk.2 p l e R s m args below meth c cells slots Q D cy ad H locs ls hF hV hP hS hL hret)
theorem gr_script {α : Type} {K : Int32 → Option α} {v : α} {L : Nat} {xs : Nat → Int32} {i : Int32} (d : decode cc pc = .ok (.iaload, 1)) (h : gn_rx L xs i K = some v) (kk : vp_in i L → K (xs i.toNatClampNeg) = some v → gn_Go own cc nL F Lc rt (some (L, xs)) (pc + 1) lv (.int (xs i.toNatClampNeg) :: rest) σ ρ σf) : gn_Go own cc nL F Lc rt (some (L, xs)) pc lv (.int i :: .ref 101 :: rest) σ ρ σf := by
  unfold gn_rx at h
  split at h
  · cases h
  · next hin =>
    have kk := kk hin h
    refine ⟨kk.1, ?_⟩
    intro p l e R s m args below meth c cells slots Q D cy ad H locs ls hF hV hP hS hL hret
    obtain ⟨hX, hb, hn⟩ := hV.2.2.2.2.2
    exact va_sld hF.1 hF.2.1 hX hb hn hS hin d (kk.2 p l e R s m args below meth c cells slots Q D cy ad H locs ls hF hV hP hS hL hret)
theorem gr_scriptLen {L : Nat} {xs : Nat → Int32} (d : decode cc pc = .ok (.arraylength, 1)) (kk : gn_Go own cc nL F Lc rt (some (L, xs)) (pc + 1) lv (.int (Int32.ofNat L) :: rest) σ ρ σf) : gn_Go own cc nL F Lc rt (some (L, xs)) pc lv (.ref 101 :: rest) σ ρ σf := by
  refine ⟨kk.1, ?_⟩
  intro p l e R s m args below meth c cells slots Q D cy ad H locs ls hF hV hP hS hL hret
  obtain ⟨hX, hb, hn⟩ := hV.2.2.2.2.2
  exact va_slen hF.1 hF.2.1 hX hb hn hS d (kk.2 p l e R s m args below meth c cells slots Q D cy ad H locs ls hF hV hP hS hL hret)
theorem gr_copy {α : Type} {K : gn_M → Option α} {v : α} {idx k0 n0 k1 n1 : Nat} {sp dp n : Int32} (hs0 : gn_S[k0]? = some (.inl (0, n0))) (hs1 : gn_S[k1]? = some (.inl (0, n1))) (hl : Cond.methodLink own idx arraycopyName ∈ gn_T) (hw : Cond.native arraycopyName ∈ gn_T ∧ Cond.static arraycopyName ∈ gn_T ∧ Cond.initialized "java/lang/System" ∈ gn_T) (hR : 1 ≤ F ∧ (rest.map fun v => v.category).sum + 18 ≤ Lc) (d : decode cc pc = .ok (.invokestatic idx, 3)) (h : gn_ac σ k0 n0 sp k1 n1 dp n K = some v)
    (kk : K (gn_cp σ k0 sp.toNatClampNeg k1 dp.toNatClampNeg n.toNatClampNeg) = some v → gn_Go own cc nL F Lc rt xo (pc + 3) lv rest (gn_cp σ k0 sp.toNatClampNeg k1 dp.toNatClampNeg n.toNatClampNeg) ρ σf) : gn_Go own cc nL F Lc rt xo pc lv (.int n :: .int dp :: .ref k1 :: .int sp :: .ref k0 :: rest) σ ρ σf := by
  unfold gn_ac at h
  split at h
  · cases h
  · next hin =>
    have kk := kk h
    refine ⟨kk.1, ?_⟩
    intro p l e R s m args below meth c cells slots Q D cy ad H locs ls hF hV hP hS hL hret
    obtain ⟨hx, hb, hml, hown, hts, hfr, hlo, -, -⟩ := id hF
    refine va_copyi hx hb (hml.trans hL.1.symm) hown (hts _ hl) (hts _ hw.1) (hts _ hw.2.1) (hts _ hw.2.2) hV.2.1 hP (gn_D hV.2.2.2.2.1) hS k0 k1 0 0 (gn_W_at hs0) (gn_W_at hs1) rfl rfl rfl (fun q => hin (Or.inl q)) (fun q => hin (Or.inr (Or.inl q))) (fun q => hin (Or.inr (Or.inr (Or.inl q)))) (Nat.not_lt.mp (fun q => hin (Or.inr (Or.inr (Or.inr (Or.inl q)))))) (Nat.not_lt.mp (fun q => hin (Or.inr (Or.inr (Or.inr (Or.inr q)))))) (fun i _ => rfl) (Nat.le_trans hR.1 hfr) ?_ d (fun H1 locs1 hP1 _ hS1 => ?_)
    · refine Nat.le_trans ?_ (Nat.le_trans hR.2 hlo)
      have e1 : (List.map (gn_tr ad) rest).map (fun v => v.category) = rest.map (fun v => v.category) := by rw [List.map_map]; exact List.map_congr_left (fun v _ => gn_tr_cat ad v)
      rw [e1]
      exact Nat.le_refl _
    · rw [← gn_cp_s] at hP1
      have hP1 : va_P D vwCl ((gn_W cy ad σ).set k1 (ad k1, gn_E cy ad (gn_cp σ k0 sp.toNatClampNeg k1 dp.toNatClampNeg n.toNatClampNeg) k1 (.inl (0, n1)))) H1 := hP1
      rw [gn_W_set hs1 (fun j hj => gn_cp_1 hj) (fun _ _ => rfl)] at hP1
      exact kk.2 p l e R s m args below meth c cells slots Q D cy ad H1 locs1 ls hF hV hP1 hS1 hL hret
/-- behind a call -/
theorem gn_back {p : Program} {l : Launch} {e : Env} {R : Room} {s : State} {m : MethodId} {args : Array Value} {below : List Frame} {meth : Method} {c : Code} {cells slots : Nat} {Q : State → Prop} {D : va_G} {cy : Nat → ClassId} {ad : Nat → Nat} {H : Heap} {locs : List Loc} {ls : Array Slot} {st0 rest0 : List Value} {ρ' : Option Value} {σ' : gn_M} (hr : va_Run p l e R s m args below meth c H locs cells slots 0 0 (F0 m pc ls st0) rest0 (fun st o t => o = .returned ρ' ∧ va_P D vwCl (gn_W cy ad σ') t.heap ∧ va_F (gn_A ad) st t) (gn_A ad)) (hS : va_S (gn_A ad) s.heap H locs)
    (kk : ∀ (H1 : Heap) (locs1 : List Loc), va_P D vwCl (gn_W cy ad σ') H1 → va_S (gn_A ad) s.heap H1 locs1 → W p l e R s m args below meth c H1 locs1 cells slots Q (F0 m (pc + 3) ls (ρ'.toList ++ rest0))) : W p l e R s m args below meth c H locs cells slots Q (F0 m pc ls st0) := by
  intro T hT X
  obtain ⟨v, st₀, t, T', L, h0, X', hL, e1, e2, ⟨hv, hP, hz, hk⟩, st⟩ := hr T hT X
  cases hv
  rw [h0] at hz hk
  obtain ⟨t2, a1, b1⟩ := kk T'.heap (locs ++ L) (by rw [e1]; exact hP)
    ⟨Nat.le_trans hS.1 (by rw [e1]; exact hz), fun q h1 h2 => by rw [e1, hk q (Nat.lt_of_lt_of_le h1 hS.1) h2]; exact hS.2.1 q h1 h2, fun q hq => by
      rcases List.mem_append.mp hq with h | h
      · exact hS.2.2 q h
      · exact hL q h⟩ T' rfl X'
  exact ⟨t2, st t2 a1, b1⟩
theorem gn_sum (ad : Nat → Nat) (rest : List Value) : ((rest.map (gn_tr ad)).map fun v => v.category).sum = (rest.map fun v => v.category).sum := by
  rw [List.map_map]
  exact congrArg List.sum (List.map_congr_left (fun v _ => gn_tr_cat ad v))
theorem gn_map_rev (ad : Nat → Nat) (As rest : List Value) : (As.reverse ++ rest).map (gn_tr ad) = (As.map (gn_tr ad)).reverse ++ rest.map (gn_tr ad) := by rw [List.map_append, List.map_reverse]
theorem gr_callV {idx k n F1 L1 maxL : Nat} {y : MethodName} {c1 : ByteArray} {ret : Option FieldType} {As : List Value} {ρ' : Option Value} {σ' : gn_M} (hM : gn_Cl y c1 maxL ret F1 L1 (.ref k :: As) σ ρ' σ') (hy : gn_My y c1 maxL ret n) (hv : gn_Mv y) (hk : gn_Ob k y.cls) (hl : Cond.methodLink own idx y ∈ gn_T) (hst : st = As.reverse ++ .ref k :: rest) (hn : As.length = n) (hR : F1 + 1 ≤ F ∧ 8 + (maxL + 11) + L1 ≤ Lc) (hr : (rest.map fun v => v.category).sum ≤ 8) (d : decode cc pc = .ok (.invokevirtual idx, 3))
    (kk : gn_fit ret ρ' → gn_Go own cc nL F Lc rt xo (pc + 3) lv (ρ'.toList ++ rest) σ' ρ σf) : gn_Go own cc nL F Lc rt xo pc lv st σ ρ σf := by
  have kk := kk hM.1
  subst hst
  refine ⟨kk.1, ?_⟩
  intro p l e R s m args below meth c cells slots Q D cy ad H locs ls hF hV hP hS hL hret
  obtain ⟨hx, hb, hml, hown, hts, hfr, hlo, hce, hsl⟩ := id hF
  obtain ⟨ci, fs, T, N, hsk, hck⟩ := hk
  refine gn_back (ρ' := ρ'.map (gn_tr ad)) (rest0 := rest.map (gn_tr ad)) (va_runV (As := As.map (gn_tr ad)) (rest := rest.map (gn_tr ad)) (b := ad k) (C := y.cls) (nL := nL) (Ts := gn_T) (n := n) ⟨hx, hb, hml, hown, hts⟩ (hM.2 l D cy ad) (cwV n hts (gn_GI (fun w hw => ?_)) rfl rfl rfl ⟨rfl, hy.2.2⟩ ⟨Nat.le_trans hR.1 hfr, Nat.le_trans hR.2 hlo⟩) ⟨fun a U g mk q => ⟨q.1, q.2.1.blind, q.2.2⟩, va_recv hV.2.1 hP hck (gn_W_at hsk), fun U hU hW => ⟨rfl, hV.to hW (fun q h1 h2 => by rw [hU]; exact hS.2.1 q h1 h2), by rw [hU]; exact hP⟩⟩ rfl (by rw [List.length_map]; exact hn) hL.1 (by rw [gn_map_rev]; rfl) (lv_room (by rw [gn_sum]; exact hr)) d ⟨hce, hsl⟩) hS (fun H1 locs1 hP1 hS1 => ?_)
  · rcases List.mem_append.mp hw with h | h
    · simp only [List.mem_cons, List.not_mem_nil, or_false] at h
      rcases h with rfl | rfl | rfl | rfl
      · exact hl
      · exact hv.1
      · exact hv.2
      · exact hy.2.1
    · rcases List.mem_cons.mp h with rfl | h
      · exact hy.1
      · exact h
  · have k2 := kk.2 p l e R s m args below meth c cells slots Q D cy ad H1 locs1 ls hF hV hP1 hS1 hL hret
    rw [List.map_append] at k2
    cases ρ' <;> exact k2
theorem gr_callVN {idx k n F1 L1 maxL : Nat} {y : MethodName} {host : String} {c1 : ByteArray} {ret : Option FieldType} {As : List Value} {ρ' : Option Value} {σ' : gn_M} (hM : gn_Cl y c1 maxL ret F1 L1 (.ref k :: As) σ ρ' σ') (hy : gn_My y c1 maxL ret n) (hv : gn_Mv y) (hk : gn_Ob k y.cls) (hl : Cond.methodLinkNest own idx y host ∈ gn_N) (hst : st = As.reverse ++ .ref k :: rest) (hn : As.length = n) (hR : F1 + 1 ≤ F ∧ 8 + (maxL + 11) + L1 ≤ Lc) (hr : (rest.map fun v => v.category).sum ≤ 8) (d : decode cc pc = .ok (.invokevirtual idx, 3))
    (kk : gn_fit ret ρ' → gn_Go own cc nL F Lc rt xo (pc + 3) lv (ρ'.toList ++ rest) σ' ρ σf) : gn_Go own cc nL F Lc rt xo pc lv st σ ρ σf := by
  have kk := kk hM.1
  subst hst
  refine ⟨kk.1, ?_⟩
  intro p l e R s m args below meth c cells slots Q D cy ad H locs ls hF hV hP hS hL hret
  obtain ⟨hx, hb, hml, hown, hts, hfr, hlo, hce, hsl⟩ := id hF
  obtain ⟨ci, fs, T, N, hsk, hck⟩ := hk
  refine gn_back (ρ' := ρ'.map (gn_tr ad)) (rest0 := rest.map (gn_tr ad)) (va_runVN (As := As.map (gn_tr ad)) (rest := rest.map (gn_tr ad)) (b := ad k) (C := y.cls) (nL := nL) (Ts := gn_T) (n := n) ⟨hx, hb, hml, hown, hts⟩ (hM.2 l D cy ad) ⟨va_cnB n hts (gn_T_good (fun w h => h) hy.1) rfl rfl rfl (hV.1 _ hl) (hts _ hy.2.1) hy.2.2 ⟨Nat.le_trans hR.1 hfr, Nat.le_trans hR.2 hlo⟩, hts _ hv.1, hts _ hv.2⟩ ⟨fun a U g mk q => ⟨q.1, q.2.1.blind, q.2.2⟩, va_recv hV.2.1 hP hck (gn_W_at hsk), fun U hU hW => ⟨rfl, hV.to hW (fun q h1 h2 => by rw [hU]; exact hS.2.1 q h1 h2), by rw [hU]; exact hP⟩⟩ rfl (by rw [List.length_map]; exact hn) hL.1 (by rw [gn_map_rev]; rfl) (lv_room (by rw [gn_sum]; exact hr)) d ⟨hce, hsl⟩) hS (fun H1 locs1 hP1 hS1 => ?_)
  have k2 := kk.2 p l e R s m args below meth c cells slots Q D cy ad H1 locs1 ls hF hV hP1 hS1 hL hret
  rw [List.map_append] at k2
  cases ρ' <;> exact k2
theorem gr_callS {idx n F1 L1 maxL : Nat} {y : MethodName} {c1 : ByteArray} {ret : Option FieldType} {As : List Value} {ρ' : Option Value} {σ' : gn_M} (hM : gn_Cl y c1 maxL ret F1 L1 As σ ρ' σ') (hy : gn_My y c1 maxL ret n) (hv : Cond.static y ∈ gn_T) (hl : Cond.methodLink own idx y ∈ gn_T) (hst : st = As.reverse ++ rest) (hn : As.length = n) (hR : F1 + 1 ≤ F ∧ 8 + (maxL + 11) + L1 ≤ Lc) (hr : (rest.map fun v => v.category).sum ≤ 8) (d : decode cc pc = .ok (.invokestatic idx, 3))
    (kk : gn_fit ret ρ' → gn_Go own cc nL F Lc rt xo (pc + 3) lv (ρ'.toList ++ rest) σ' ρ σf) : gn_Go own cc nL F Lc rt xo pc lv st σ ρ σf := by
  have kk := kk hM.1
  subst hst
  refine ⟨kk.1, ?_⟩
  intro p l e R s m args below meth c cells slots Q D cy ad H locs ls hF hV hP hS hL hret
  obtain ⟨hx, hb, hml, hown, hts, hfr, hlo, hce, hsl⟩ := id hF
  refine gn_back (ρ' := ρ'.map (gn_tr ad)) (rest0 := rest.map (gn_tr ad)) (va_runS (As := As.map (gn_tr ad)) (rest := rest.map (gn_tr ad)) (nL := nL) (Ts := gn_T) (n := n) ⟨hx, hb, hml, hown, hts⟩ (hM.2 l D cy ad) (va_cwS n hts (gn_GI (fun w hw => ?_)) rfl rfl rfl hy.2.2 ⟨Nat.le_trans hR.1 hfr, Nat.le_trans hR.2 hlo⟩) ⟨fun a U g mk q => ⟨q.1, q.2.1.blind, q.2.2⟩, fun U hU hW => ⟨rfl, hV.to hW (fun q h1 h2 => by rw [hU]; exact hS.2.1 q h1 h2), by rw [hU]; exact hP⟩⟩ rfl (by rw [List.length_map]; exact hn) hL.1 (by rw [gn_map_rev]) (lv_room (by rw [gn_sum]; exact hr)) d ⟨hce, hsl⟩) hS (fun H1 locs1 hP1 hS1 => ?_)
  · rcases List.mem_append.mp hw with h | h
    · simp only [List.mem_cons, List.not_mem_nil, or_false] at h
      rcases h with rfl | rfl | rfl
      · exact hl
      · exact hv
      · exact hy.2.1
    · rcases List.mem_cons.mp h with rfl | h
      · exact hy.1
      · exact h
  · have k2 := kk.2 p l e R s m args below meth c cells slots Q D cy ad H1 locs1 ls hF hV hP1 hS1 hL hret
    rw [List.map_append] at k2
    cases ρ' <;> exact k2
theorem gr_callSN {idx n F1 L1 maxL : Nat} {y : MethodName} {host : String} {c1 : ByteArray} {ret : Option FieldType} {As : List Value} {ρ' : Option Value} {σ' : gn_M} (hM : gn_Cl y c1 maxL ret F1 L1 As σ ρ' σ') (hy : gn_My y c1 maxL ret n) (hv : Cond.static y ∈ gn_T) (hl : Cond.methodLinkNest own idx y host ∈ gn_N) (hst : st = As.reverse ++ rest) (hn : As.length = n) (hR : F1 + 1 ≤ F ∧ 8 + (maxL + 11) + L1 ≤ Lc) (hr : (rest.map fun v => v.category).sum ≤ 8) (d : decode cc pc = .ok (.invokestatic idx, 3))
    (kk : gn_fit ret ρ' → gn_Go own cc nL F Lc rt xo (pc + 3) lv (ρ'.toList ++ rest) σ' ρ σf) : gn_Go own cc nL F Lc rt xo pc lv st σ ρ σf := by
  have kk := kk hM.1
  subst hst
  refine ⟨kk.1, ?_⟩
  intro p l e R s m args below meth c cells slots Q D cy ad H locs ls hF hV hP hS hL hret
  obtain ⟨hx, hb, hml, hown, hts, hfr, hlo, hce, hsl⟩ := id hF
  refine gn_back (ρ' := ρ'.map (gn_tr ad)) (rest0 := rest.map (gn_tr ad)) (va_runSN (As := As.map (gn_tr ad)) (rest := rest.map (gn_tr ad)) (nL := nL) (Ts := gn_T) (n := n) ⟨hx, hb, hml, hown, hts⟩ (hM.2 l D cy ad) ⟨va_cnB n hts (gn_T_good (fun w h => h) hy.1) rfl rfl rfl (hV.1 _ hl) (hts _ hy.2.1) hy.2.2 ⟨Nat.le_trans hR.1 hfr, Nat.le_trans hR.2 hlo⟩, hts _ hv, trivial⟩ ⟨fun a U g mk q => ⟨q.1, q.2.1.blind, q.2.2⟩, fun U hU hW => ⟨rfl, hV.to hW (fun q h1 h2 => by rw [hU]; exact hS.2.1 q h1 h2), by rw [hU]; exact hP⟩⟩ rfl (by rw [List.length_map]; exact hn) hL.1 (by rw [gn_map_rev]) (lv_room (by rw [gn_sum]; exact hr)) d ⟨hce, hsl⟩) hS (fun H1 locs1 hP1 hS1 => ?_)
  have k2 := kk.2 p l e R s m args below meth c cells slots Q D cy ad H1 locs1 ls hF hV hP1 hS1 hL hret
  rw [List.map_append] at k2
  cases ρ' <;> exact k2
end GNM
