/-! THE PURE MEMORY OF BOTH OBJECTS, its shape (which never changes once both are made), and the world that it stands for. A reference is the number of its cell; ad gives its address. -/
abbrev gn_M : Type := (Nat → Nat → Int32) × (Nat → Nat → Int64)
/-- a cell: an array of ints (0), bytes (1), booleans (2) of a length; a row of references; an object of a kind with its fields (a cell; an int; a long) -/
abbrev gn_Sh : Type := (Nat × Nat) ⊕ (List Nat) ⊕ (Nat × List (Nat ⊕ Bool))
def gn_tr (ad : Nat → Nat) : Value → Value
  | .ref k => .ref (ad k)
  | v => v
def gn_F (ad : Nat → Nat) (σ : gn_M) (k j : Nat) : Nat ⊕ Bool → Value
  | .inl t => .ref (ad t)
  | .inr false => .int (σ.1 k j)
  | .inr true => .long (σ.2 k j)
def gn_E (cy : Nat → ClassId) (ad : Nat → Nat) (σ : gn_M) (k : Nat) : gn_Sh → va_E
  | .inl (t, n) => .inl (cy t, n, .inl (σ.1 k))
  | .inr (.inl ts) => .inl (cy 3, ts.length, .inr (.inr (.inr (.inr (fun i => (ts[i]?).map ad)))))
  | .inr (.inr (ci, fs)) => .inr (ci, fs.mapIdx (fun j f => gn_F ad σ k j f))
def gn_S : List gn_Sh :=
  [.inr (.inr (3, [.inl 1, .inl 4, .inl 7, .inl 8, .inl 9, .inl 23, .inl 24, .inl 25, .inl 26, .inr false, .inr false, .inr true, .inr true])),
   .inr (.inr (2, [.inl 2, .inl 3, .inr false])), .inr (.inl [10, 11, 12, 13, 14, 15]), .inl (0, 6),
   .inr (.inr (2, [.inl 5, .inl 6, .inr false])), .inr (.inl [16, 17, 18, 19]), .inl (0, 4),
   .inr (.inr (0, [.inl 27, .inl 28, .inl 29, .inl 30, .inl 31, .inl 32, .inr false, .inr false, .inr false, .inr false, .inr false])),
   .inr (.inr (1, [.inl 33, .inl 34, .inl 35, .inl 36, .inl 37, .inr false, .inr false, .inr false])),
   .inr (.inl [20, 21, 22]),
   .inl (0, 40), .inl (0, 40), .inl (0, 40), .inl (0, 40), .inl (0, 40), .inl (0, 40),
   .inl (0, 60), .inl (0, 60), .inl (0, 60), .inl (0, 60),
   .inl (0, 40), .inl (0, 40), .inl (0, 40),
   .inl (0, 3), .inl (0, 7), .inl (0, 7), .inl (0, 6),
   .inl (0, 7), .inl (0, 7), .inl (0, 7), .inl (0, 7), .inl (0, 6), .inl (0, 40),
   .inl (0, 7), .inl (0, 128), .inl (0, 128), .inl (0, 128), .inl (0, 896),
   .inr (.inr (4, [.inr false, .inl 39, .inr false, .inr true, .inr true, .inl 40, .inl 41, .inl 42, .inl 43, .inl 44, .inr false, .inl 45, .inl 46, .inl 47, .inr false, .inl 48, .inr false, .inl 49, .inl 50, .inl 51, .inl 52, .inl 53, .inl 54, .inl 55])),
   .inl (0, 6), .inl (0, 6), .inl (0, 240), .inl (0, 4), .inl (1, 240), .inl (0, 40),
   .inl (0, 14), .inl (0, 14), .inl (0, 14), .inl (0, 410), .inl (0, 1230), .inl (0, 3),
   .inl (0, 7), .inl (0, 896), .inl (0, 1024), .inl (0, 7), .inl (2, 1024)]
abbrev gn_n : Nat := 56
theorem gn_S_length : gn_S.length = gn_n := by decide +kernel
def gn_W (cy : Nat → ClassId) (ad : Nat → Nat) (σ : gn_M) : va_W := gn_S.mapIdx (fun k c => (ad k, gn_E cy ad σ k c))
def gn_A (ad : Nat → Nat) : Nat → Prop := fun q => ∃ k : Nat, k < gn_n ∧ q = ad k
theorem gn_W_at {cy : Nat → ClassId} {ad : Nat → Nat} {σ : gn_M} {k : Nat} {c : gn_Sh} (h : gn_S[k]? = some c) : (gn_W cy ad σ)[k]? = some (ad k, gn_E cy ad σ k c) := by
  rw [gn_W, List.getElem?_mapIdx, h]
  rfl
theorem gn_lt {k : Nat} {c : gn_Sh} (h : gn_S[k]? = some c) : k < gn_n := by
  have := (List.getElem?_eq_some_iff.mp h).1
  rwa [gn_S_length] at this
theorem gn_W_ad {cy : Nat → ClassId} {ad : Nat → Nat} {σ : gn_M} {k : Nat} {q : Nat × va_E} (h : (gn_W cy ad σ)[k]? = some q) : k < gn_n ∧ q.1 = ad k := by
  rw [gn_W, List.getElem?_mapIdx] at h
  cases hk : gn_S[k]? with
  | none => rw [hk] at h; cases h
  | some c => rw [hk] at h; cases h; exact ⟨gn_lt hk, rfl⟩
def gn_ap (ad : Nat → Nat) : Prop := ∀ i j : Nat, i < gn_n → j < gn_n → ad i = ad j → i = j
theorem gn_D {cy : Nat → ClassId} {ad : Nat → Nat} {σ : gn_M} (h : gn_ap ad) : va_D (gn_A ad) (gn_W cy ad σ) := by
  refine ⟨fun i j p q hi hj e => ?_, fun k q hk => ?_⟩
  · obtain ⟨h1, e1⟩ := gn_W_ad hi
    obtain ⟨h2, e2⟩ := gn_W_ad hj
    exact h i j h1 h2 (e1.symm.trans (e.trans e2))
  · obtain ⟨h1, e1⟩ := gn_W_ad hk
    exact ⟨k, h1, e1⟩
/-- one cell of the memory is another one: the world's cell is -/
theorem gn_W_set {cy : Nat → ClassId} {ad : Nat → Nat} {σ σ' : gn_M} {k : Nat} {c : gn_Sh} (h : gn_S[k]? = some c) (h1 : ∀ j, j ≠ k → σ'.1 j = σ.1 j) (h2 : ∀ j, j ≠ k → σ'.2 j = σ.2 j) : (gn_W cy ad σ).set k (ad k, gn_E cy ad σ' k c) = gn_W cy ad σ' := by
  apply List.ext_getElem?
  intro i
  by_cases hi : i = k
  · subst hi
    rw [List.getElem?_set_self (by rw [gn_W, List.length_mapIdx]; exact (List.getElem?_eq_some_iff.mp h).1), gn_W_at h]
  · rw [List.getElem?_set_ne (Ne.symm hi), gn_W, gn_W, List.getElem?_mapIdx, List.getElem?_mapIdx]
    congr 1
    funext c2
    congr 1
    match c2 with
    | .inl (t, n) => simp only [gn_E, h1 i hi]
    | .inr (.inl ts) => rfl
    | .inr (.inr (ci, fs)) =>
      simp only [gn_E]
      congr 3
      funext j f
      match f with
      | .inl t => rfl
      | .inr false => simp only [gn_F, h1 i hi]
      | .inr true => simp only [gn_F, h2 i hi]
/-- the memory with an int, a long laid into a cell's place -/
def gn_up (σ : gn_M) (k i : Nat) (v : Int32) : gn_M := (fun a b => if a = k ∧ b = i then v else σ.1 a b, σ.2)
def gn_upL (σ : gn_M) (k i : Nat) (v : Int64) : gn_M := (σ.1, fun a b => if a = k ∧ b = i then v else σ.2 a b)
/-- with places of a cell copied into another one's (perhaps its own), as if taken ahead -/
def gn_cp (σ : gn_M) (k0 sp k1 dp n : Nat) : gn_M := (fun a b => if a = k1 then va_cpy (σ.1 k0) (σ.1 k1) sp dp n b else σ.1 a b, σ.2)
theorem gn_up_1 {σ : gn_M} {k i : Nat} {v : Int32} {j : Nat} (h : j ≠ k) : (gn_up σ k i v).1 j = σ.1 j := by
  funext b
  simp [gn_up, h]
theorem gn_up_s {σ : gn_M} {k i : Nat} {v : Int32} : (gn_up σ k i v).1 k = upd (σ.1 k) i v := by
  funext b
  simp [gn_up, upd]
theorem gn_cp_1 {σ : gn_M} {k0 sp k1 dp n : Nat} {j : Nat} (h : j ≠ k1) : (gn_cp σ k0 sp k1 dp n).1 j = σ.1 j := by
  funext b
  simp [gn_cp, h]
theorem gn_cp_s {σ : gn_M} {k0 sp k1 dp n : Nat} : (gn_cp σ k0 sp k1 dp n).1 k1 = va_cpy (σ.1 k0) (σ.1 k1) sp dp n := by
  funext b
  simp [gn_cp]
/-! WORDS: those that stay, and those of nest mates -/
def gn_T : List Cond := lw_tbl.filter goodWord
def gn_isN : Cond → Bool
  | .fieldLinkNest .. => true
  | .methodLinkNest .. => true
  | _ => false
def gn_N : List Cond := lw_tbl.filter gn_isN
theorem gn_t {w : Cond} (i : Nat) (h : lw_tbl[i]? = some w) (g : goodWord w = true) : w ∈ gn_T := List.mem_filter.mpr ⟨List.mem_of_getElem? h, g⟩
theorem gn_nn {w : Cond} (i : Nat) (h : lw_tbl[i]? = some w) (g : gn_isN w = true) : w ∈ gn_N := List.mem_filter.mpr ⟨List.mem_of_getElem? h, g⟩
theorem gn_T_good {y : MethodName} {cc : ByteArray} {n : Nat} {ret : Option FieldType} {big : List Cond} (hb : ∀ w ∈ gn_T, w ∈ big) (h : Cond.code y cc n ret ∈ gn_T) : GoodIn big (Cond.code y cc n ret :: gn_T) := by
  intro w hw
  have key : ∀ v, v ∈ gn_T → v ∈ big ∧ ((v.onTables && v.keeps) = true ∨ ∃ ty, v = .arrayClass ty) := fun v hv => ⟨hb v hv, good_of_word (List.mem_filter.mp hv).2⟩
  rcases List.mem_cons.mp hw with rfl | h1
  · exact key _ h
  · exact key _ h1
/-! THE WORLD'S STANDING PART: tables, the static row of letters, the script of the law, addresses apart -/
abbrev gn_tys (cy : Nat → ClassId) : List (ClassId × FieldType) := [(cy 0, .int), (cy 1, .byte), (cy 2, .boolean), (cy 3, .array .int)]
def gn_let (j : Nat) : Int32 := ([103, 107, 115, 109, 105, 102] : List Int32).getD j 0
def gn_X (xo : Option (Nat × (Nat → Int32))) (ad : Nat → Nat) (s : State) : Prop := match xo with
  | none => True
  | some (L, xs) => va_X (ad 101) L xs s s.heap ∧ ad 101 < s.heap.size ∧ ¬ gn_A ad (ad 101)
def gn_V (xo : Option (Nat × (Nat → Int32))) (D : va_G) (cy : Nat → ClassId) (ad : Nat → Nat) (s : State) : Prop :=
  (∀ w ∈ gn_N, va_Nw w s) ∧ va_K D vwCl (gn_tys cy) s ∧ va_Z "GateNames" "LETTERS" "[I" (.ref (ad 100)) (gn_A ad) s s.heap ∧ va_T .int (ad 100) 6 (fun j => .int (gn_let j)) (gn_A ad) s s.heap ∧ gn_ap ad ∧ gn_X xo ad s
theorem gn_V.to {xo : Option (Nat × (Nat → Int32))} {D : va_G} {cy : Nat → ClassId} {ad : Nat → Nat} {s U : State} (h : gn_V xo D cy ad s) (hW : s.WarmedH U.vm) (hq : ∀ q : Nat, q < s.heap.size → ¬ gn_A ad q → U.heap[q]? = s.heap[q]?) : gn_V none D cy ad U := by
  obtain ⟨h1, h2, h3, h4, h5, -⟩ := h
  refine ⟨fun w hw => ?_, va_K.moved hW.alike h2, (h3.moved hW.alike).kept hq, (h4.moved hW.alike).kept hq, h5, trivial⟩
  have hn := (List.mem_filter.mp hw).2
  have h0 := h1 w hw
  cases w <;> first | (cases hn; done) | exact va_Nw.warmF hW h0 | exact va_Nw.warmM hW h0
theorem gn_V.blind {D : va_G} {cy : Nat → ClassId} {ad : Nat → Nat} {U : State} {g : JFrame} {mk : MethodId} {a : Array Value} (h : gn_V none D cy ad U) : gn_V none D cy ad (U.calling g mk a) := by
  obtain ⟨h1, h2, h3, h4, h5, -⟩ := h
  refine ⟨fun w hw => ?_, va_K.moved (u := U) (U := U.calling g mk a) (Vm.Alike.refl U.vm) h2, h3.moved (u := U) (U := U.calling g mk a) (Vm.Alike.refl U.vm), h4.moved (u := U) (U := U.calling g mk a) (Vm.Alike.refl U.vm), h5, trivial⟩
  have hn := (List.mem_filter.mp hw).2
  have h0 := h1 w hw
  cases w <;> first | (cases hn; done) | exact va_Nw.same (u := U) (U := U.calling g mk a) rfl rfl h0
/-! LOCALS: what is known of each place -/
def gn_L (ls : Array Slot) (nL : Nat) (ad : Nat → Nat) (lv : List (Option Value)) : Prop := ls.size = nL ∧ lv_wf ls ∧ ∀ (i : Nat) (v : Value), lv[i]? = some (some v) → ls[i]? = some (.val (gn_tr ad v))
def gn_ll (ad : Nat → Nat) (lv : List (Option Value)) : List (Nat × Value) := lv.zipIdx.filterMap (fun q => q.1.map (fun v => (q.2, gn_tr ad v)))
theorem gn_ll_mem {ad : Nat → Nat} {lv : List (Option Value)} {i : Nat} {w : Value} : (i, w) ∈ gn_ll ad lv ↔ ∃ v, lv[i]? = some (some v) ∧ w = gn_tr ad v := by
  unfold gn_ll
  rw [List.mem_filterMap]
  constructor
  · rintro ⟨⟨o, j⟩, hm, he⟩
    rw [List.mem_zipIdx_iff_getElem?] at hm
    cases o with
    | none => cases he
    | some v => cases he; exact ⟨v, hm, rfl⟩
  · rintro ⟨v, h, rfl⟩
    exact ⟨(some v, i), List.mem_zipIdx_iff_getElem?.mpr h, rfl⟩
theorem gn_L.has {ls : Array Slot} {nL : Nat} {ad : Nat → Nat} {lv : List (Option Value)} (h : gn_L ls nL ad lv) : lv_has ls nL (gn_ll ad lv) := by
  refine ⟨h.1, h.2.1, fun q hq => ?_⟩
  obtain ⟨i, w⟩ := q
  obtain ⟨v, h1, rfl⟩ := gn_ll_mem.mp hq
  exact h.2.2 i v h1
theorem gn_tr_cat (ad : Nat → Nat) (v : Value) : (gn_tr ad v).category = v.category := by cases v <;> rfl
/-- behind a store of one place: the list of what is known -/
def gn_ok1 (i : Nat) (lv : List (Option Value)) : Bool := match i with
  | 0 => true
  | j + 1 => match lv[j]? with
    | some (some w) => w.category == 1
    | _ => true
theorem gn_L.st1 {ls' : Array Slot} {nL : Nat} {ad : Nat → Nat} {lv lv' : List (Option Value)} {i : Nat} {v : Value} (hok : gn_ok1 i lv' = true) (hs : ∀ j w, j ≠ i → lv'[j]? = some (some w) → lv[j]? = some (some w)) (hv : ∀ w, lv'[i]? = some (some w) → w = v)
    (h : lv_has ls' nL ((i, gn_tr ad v) :: (gn_ll ad lv).filter (fun q => !(q.1 == i) && !(q.1 + 1 == i && q.2.category == 2)))) : gn_L ls' nL ad lv' := by
  refine ⟨h.1, h.2.1, fun j w hj => ?_⟩
  by_cases hji : j = i
  · subst hji
    rw [hv w hj]
    exact h.2.2 (j, gn_tr ad v) List.mem_cons_self
  · refine h.2.2 (j, gn_tr ad w) (List.mem_cons_of_mem _ (List.mem_filter.mpr ⟨gn_ll_mem.mpr ⟨w, hs j w hji hj, rfl⟩, ?_⟩))
    have h1 : ¬ (j + 1 = i ∧ w.category = 2) := by
      rintro ⟨rfl, hc⟩
      simp [gn_ok1, hj, hc] at hok
    simp only [gn_tr_cat]
    simp [hji]
    by_cases e : j + 1 = i
    · exact Or.inr (fun hc => h1 ⟨e, hc⟩)
    · exact Or.inl e
theorem gn_L.st2 {ls' : Array Slot} {nL : Nat} {ad : Nat → Nat} {lv lv' : List (Option Value)} {i : Nat} {v : Value} (hok : gn_ok1 i lv' = true) (hs : ∀ j w, j ≠ i → lv'[j]? = some (some w) → lv[j]? = some (some w) ∧ j ≠ i + 1) (hv : ∀ w, lv'[i]? = some (some w) → w = v)
    (h : lv_has ls' nL ((i, gn_tr ad v) :: (gn_ll ad lv).filter (fun q => !(q.1 == i) && (!(q.1 == i + 1) && !(q.1 + 1 == i && q.2.category == 2))))) : gn_L ls' nL ad lv' := by
  refine ⟨h.1, h.2.1, fun j w hj => ?_⟩
  by_cases hji : j = i
  · subst hji
    rw [hv w hj]
    exact h.2.2 (j, gn_tr ad v) List.mem_cons_self
  · refine h.2.2 (j, gn_tr ad w) (List.mem_cons_of_mem _ (List.mem_filter.mpr ⟨gn_ll_mem.mpr ⟨w, (hs j w hji hj).1, rfl⟩, ?_⟩))
    have h1 : ¬ (j + 1 = i ∧ w.category = 2) := by
      rintro ⟨rfl, hc⟩
      simp [gn_ok1, hj, hc] at hok
    have h2 := (hs j w hji hj).2
    simp only [gn_tr_cat]
    simp [hji, h2]
    by_cases e : j + 1 = i
    · exact Or.inr (fun hc => h1 ⟨e, hc⟩)
    · exact Or.inl e
def gn_clr (i : Nat) (lv : List (Option Value)) : List (Option Value) := match i with
  | 0 => lv
  | j + 1 => match lv[j]? with
    | some (some w) => if w.category = 2 then lv.set j none else lv
    | _ => lv
def gn_put1 (i : Nat) (v : Value) (lv : List (Option Value)) : List (Option Value) := (gn_clr i lv).set i (some v)
def gn_put2 (i : Nat) (v : Value) (lv : List (Option Value)) : List (Option Value) := ((gn_clr i lv).set i (some v)).set (i + 1) none
theorem gn_clr_in {i j : Nat} {w : Value} {lv : List (Option Value)} (h : (gn_clr i lv)[j]? = some (some w)) : lv[j]? = some (some w) := by
  unfold gn_clr at h
  split at h
  · exact h
  · split at h
    · split at h
      · next k _ _ _ _ =>
        by_cases hk : j = k
        · subst hk
          by_cases hl : j < lv.length
          · rw [List.getElem?_set_self hl] at h; cases h
          · rw [List.getElem?_eq_none (by rw [List.length_set]; omega)] at h; cases h
        · rwa [List.getElem?_set_ne (Ne.symm hk)] at h
      · exact h
    · exact h
theorem gn_clr_ok {i : Nat} {lv : List (Option Value)} : gn_ok1 i (gn_clr i lv) = true := by
  unfold gn_ok1
  split
  · rfl
  · next j =>
    split
    · next w hw =>
      have h1 := gn_clr_in hw
      simp only [gn_clr, h1] at hw
      rcases lv_cat w with hc | hc
      · simp [hc]
      · rw [if_pos hc] at hw
        rw [List.getElem?_set_self (List.getElem?_eq_some_iff.mp h1).1] at hw
        cases hw
    · rfl
theorem gn_ok1_set {i j : Nat} {o : Option Value} {lv : List (Option Value)} (h : gn_ok1 i lv = true) (hj : i ≤ j) : gn_ok1 i (lv.set j o) = true := by
  unfold gn_ok1 at h ⊢
  split
  · rfl
  · next k =>
    rw [List.getElem?_set_ne (by omega)]
    exact h
theorem gn_L.put1 {ls' : Array Slot} {nL : Nat} {ad : Nat → Nat} {lv : List (Option Value)} {i : Nat} {v : Value}
    (h : lv_has ls' nL ((i, gn_tr ad v) :: (gn_ll ad lv).filter (fun q => !(q.1 == i) && !(q.1 + 1 == i && q.2.category == 2)))) : gn_L ls' nL ad (gn_put1 i v lv) := by
  refine gn_L.st1 (gn_ok1_set gn_clr_ok (Nat.le_refl i)) (fun j w hj hw => ?_) (fun w hw => ?_) h
  · rw [gn_put1, List.getElem?_set_ne (Ne.symm hj)] at hw
    exact gn_clr_in hw
  · rw [gn_put1] at hw
    by_cases hl : i < (gn_clr i lv).length
    · rw [List.getElem?_set_self hl] at hw; cases hw; rfl
    · rw [List.getElem?_eq_none (by rw [List.length_set]; omega)] at hw; cases hw
theorem gn_L.put2 {ls' : Array Slot} {nL : Nat} {ad : Nat → Nat} {lv : List (Option Value)} {i : Nat} {v : Value}
    (h : lv_has ls' nL ((i, gn_tr ad v) :: (gn_ll ad lv).filter (fun q => !(q.1 == i) && (!(q.1 == i + 1) && !(q.1 + 1 == i && q.2.category == 2))))) : gn_L ls' nL ad (gn_put2 i v lv) := by
  refine gn_L.st2 (gn_ok1_set (gn_ok1_set gn_clr_ok (Nat.le_refl i)) (Nat.le_succ i)) (fun j w hj hw => ?_) (fun w hw => ?_) h
  · rw [gn_put2] at hw
    by_cases h1 : j = i + 1
    · subst h1
      exfalso
      by_cases hl : i + 1 < ((gn_clr i lv).set i (some v)).length
      · rw [List.getElem?_set_self hl] at hw; cases hw
      · rw [List.getElem?_eq_none (by rw [List.length_set]; omega)] at hw; cases hw
    · rw [List.getElem?_set_ne (fun e => h1 e.symm), List.getElem?_set_ne (Ne.symm hj)] at hw
      exact ⟨gn_clr_in hw, h1⟩
  · rw [gn_put2, List.getElem?_set_ne (by omega)] at hw
    by_cases hl : i < (gn_clr i lv).length
    · rw [List.getElem?_set_self hl] at hw; cases hw; rfl
    · rw [List.getElem?_eq_none (by rw [List.length_set]; omega)] at hw; cases hw
/-! THE JUDGEMENT: in a method, from a place of its code, with these locals, this stack and this memory, the method comes to its return with ρ and the memory σf -/
def gn_fit : Option FieldType → Option Value → Prop
  | some ty, some (.int v) => narrow ty (.int v) = .int v
  | some .long, some (.long _) => True
  | none, none => True
  | _, _ => False
def gn_isRet (cc : ByteArray) (pc : Nat) : Option Value → Prop
  | some (.int _) => decode cc pc = .ok (.ireturn, 1)
  | some (.long _) => decode cc pc = .ok (.lreturn, 1)
  | none => decode cc pc = .ok (.return_, 1)
  | _ => False
def gn_Fx (own : String) (cc : ByteArray) (nL F Lc : Nat) (R : Room) (cells slots : Nat) (p : Program) (m : MethodId) (args : Array Value) (c : Code) (s : State) : Prop :=
  p.tables.exec = Jvm.exec ∧ c.code = cc ∧ c.maxLocals = nL ∧ s.vm.findClass own = some m.cls ∧ (∀ w ∈ gn_T, w.before args s = true) ∧ F ≤ R.frames ∧ Lc ≤ R.locals ∧ cells ≤ R.cells ∧ slots ≤ R.slots
def gn_Go (own : String) (cc : ByteArray) (nL F Lc : Nat) (rt : Option FieldType) (xo : Option (Nat × (Nat → Int32))) (pc : Nat) (lv : List (Option Value)) (st : List Value) (σ : gn_M) (ρ : Option Value) (σf : gn_M) : Prop :=
  gn_fit rt ρ ∧ ∀ (p : Program) (l : Launch) (e : Env) (R : Room) (s : State) (m : MethodId) (args : Array Value) (below : List Frame) (meth : Method) (c : Code) (cells slots : Nat) (Q : State → Prop) (D : va_G) (cy : Nat → ClassId) (ad : Nat → Nat) (H : Heap) (locs : List Loc) (ls : Array Slot),
    gn_Fx own cc nL F Lc R cells slots p m args c s → gn_V xo D cy ad s → va_P D vwCl (gn_W cy ad σ) H → va_S (gn_A ad) s.heap H locs → gn_L ls nL ad lv →
    (∀ (pc' : Nat) (H' : Heap) (locs' : List Loc) (ls' : Array Slot), gn_isRet cc pc' ρ → va_P D vwCl (gn_W cy ad σf) H' → va_S (gn_A ad) s.heap H' locs' → W p l e R s m args below meth c H' locs' cells slots Q (F0 m pc' ls' (ρ.toList.map (gn_tr ad)))) →
    W p l e R s m args below meth c H locs cells slots Q (F0 m pc ls (st.map (gn_tr ad)))
/-- a method's contract at arguments and a memory -/
def gn_Cl (y : MethodName) (cc : ByteArray) (maxL : Nat) (ret : Option FieldType) (F Lc : Nat) (as : List Value) (σ : gn_M) (ρ : Option Value) (σf : gn_M) : Prop :=
  gn_fit ret ρ ∧ ∀ (l : Launch) (D : va_G) (cy : Nat → ClassId) (ad : Nat → Nat), Met l y (Cond.code y cc maxL ret :: gn_T) ({ frames := F, cells := 0, slots := 0, locals := Lc }) (fun args U => args = (as.map (gn_tr ad)).toArray ∧ gn_V none D cy ad U ∧ va_P D vwCl (gn_W cy ad σ) U.heap) (fun _ st o t => o = .returned (ρ.map (gn_tr ad)) ∧ va_P D vwCl (gn_W cy ad σf) t.heap ∧ va_F (gn_A ad) st t) 0 0 (gn_A ad)
def gn_lv0 : List Value → List (Option Value)
  | [] => []
  | v :: vs => if v.category = 2 then some v :: none :: gn_lv0 vs else some v :: gn_lv0 vs
theorem gn_lv0_mem (ad : Nat → Nat) : ∀ (as : List Value) (b i : Nat) (v : Value), (gn_lv0 as)[i]? = some (some v) → (b + i, gn_tr ad v) ∈ lv_args b (as.map (gn_tr ad))
  | [], b, i, v, h => by simp [gn_lv0] at h
  | a :: as, b, i, v, h => by
    unfold gn_lv0 at h
    rw [List.map_cons, lv_args, gn_tr_cat]
    by_cases hc : a.category = 2
    · rw [if_pos hc] at h ⊢
      match i, h with
      | 0, h => cases h; exact List.mem_cons_self
      | 1, h => cases h
      | i + 2, h =>
        have := gn_lv0_mem ad as (b + 2) i v h
        rw [show b + (i + 2) = b + 2 + i by omega]
        exact List.mem_cons_of_mem _ this
    · rw [if_neg hc] at h ⊢
      match i, h with
      | 0, h => cases h; exact List.mem_cons_self
      | i + 1, h =>
        have := gn_lv0_mem ad as (b + 1) i v h
        rw [show b + (i + 1) = b + 1 + i by omega]
        exact List.mem_cons_of_mem _ this
theorem gn_lv0_len (ad : Nat → Nat) : ∀ (as : List Value), (lg_sl (as.map (gn_tr ad))).length = (gn_lv0 as).length
  | [] => rfl
  | a :: as => by
    have ih := gn_lv0_len ad as
    unfold gn_lv0
    rw [List.map_cons, show lg_sl (gn_tr ad a :: as.map (gn_tr ad)) = (if (gn_tr ad a).category = 2 then [Slot.val (gn_tr ad a), .second] else [.val (gn_tr ad a)]) ++ lg_sl (as.map (gn_tr ad)) from rfl, gn_tr_cat, List.length_append, ih]
    by_cases hc : a.category = 2
    · rw [if_pos hc, if_pos hc]; simp; omega
    · rw [if_neg hc, if_neg hc]; simp; omega
/-- the judgement from a method's entry is its contract -/
theorem gn_met {y : MethodName} {own : String} {cc : ByteArray} {maxL F Lc : Nat} {ret : Option FieldType} {as : List Value} {lv : List (Option Value)} {σ : gn_M} {ρ : Option Value} {σf : gn_M} (hy : plainName y.cls = true) (ho : y.cls = own) (hl : gn_lv0 as ++ List.replicate (maxL - (gn_lv0 as).length) none = lv) (hn : (gn_lv0 as).length ≤ maxL)
    (k : gn_Go own cc maxL F Lc ret none 0 lv [] σ ρ σf) : gn_Cl y cc maxL ret F Lc as σ ρ σf := by
  subst ho
  refine ⟨k.1, fun l D cy ad => ?_⟩
  refine Met.ofW (cc := cc) (maxL := maxL) (ret := ret) hy rfl ?_
  intro p e s m args below meth c s₁ B hml hv
  obtain ⟨rfl, hV, hP⟩ := hv
  have hts := atoms_spec (ws := Cond.code y cc maxL ret :: gn_T) B.pre
  have hown : s.vm.findClass y.cls = some m.cls := findClass_of_methodNamed B.named
  have hlocks := B.notSynchronized
  have hent := lv_entry (as.map (gn_tr ad)) (n := maxL) (by rw [gn_lv0_len]; exact hn)
  rw [lg_entry_eq]
  generalize (lg_sl (as.map (gn_tr ad)) ++ List.replicate (maxL - (lg_sl (as.map (gn_tr ad))).length) Slot.unset).toArray = ls at hent ⊢
  refine k.2 p l e _ s m _ below meth c 0 0 _ D cy ad s.heap [] ls ⟨B.exec, B.bytes, hml, hown, fun w hw => hts w (List.mem_cons_of_mem _ hw), Nat.le_refl _, Nat.le_refl _, Nat.le_refl _, Nat.le_refl _⟩ hV hP va_S.rf ⟨hent.1, hent.2.1, fun i v hi => ?_⟩ ?_
  · have h0 : (gn_lv0 as)[i]? = some (some v) := by
      rw [← hl] at hi
      by_cases hlt : i < (gn_lv0 as).length
      · rwa [List.getElem?_append_left hlt] at hi
      · rw [List.getElem?_append_right (by omega)] at hi
        have := List.eq_of_mem_replicate (List.mem_of_getElem? hi)
        cases this
    have h1 := gn_lv0_mem ad as 0 i v h0
    rw [Nat.zero_add] at h1
    exact hent.2.2 _ h1
  · intro pc' H' locs' ls' hret hP' hS'
    have hfit := k.1
    have hr := B.returns
    cases ρ with
    | none =>
      cases ret with
      | none => exact W.vret B.exec B.bytes hr (fun t ht hW => ⟨rfl, by rw [ht]; exact hP', hS'.F ht⟩) hS'.2.2 hret
      | some ty => cases ty <;> exact hfit.elim
    | some v =>
      cases v with
      | int v =>
        cases ret with
        | none => exact hfit.elim
        | some ty => exact W.zret B.exec B.bytes hr (by cases ty <;> exact hfit) (fun t ht hW => ⟨rfl, by rw [ht]; exact hP', hS'.F ht⟩) hS'.2.2 hret
      | long v =>
        cases ret with
        | none => exact hfit.elim
        | some ty =>
          cases ty with
          | long => exact W.lret B.exec B.bytes hr (fun t ht hW => ⟨rfl, by rw [ht]; exact hP', hS'.F ht⟩) hS'.2.2 hret
          | _ => exact hfit.elim
      | _ => exact hret.elim
