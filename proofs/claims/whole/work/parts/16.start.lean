theorem w_cl_L_7 : Cond.classLink RL 7 RX3 ∈ gn_T := gn_t 111 (by decide +kernel) (by decide +kernel)
theorem w_cl_L_10 : Cond.classLink RL 10 RX4 ∈ gn_T := gn_t 760 (by decide +kernel) (by decide +kernel)
theorem w_in_X3 : Cond.instantiable RX3 13 ∈ gn_T := gn_t 112 (by decide +kernel) (by decide +kernel)
theorem w_ini_X3 : Cond.initialized RX3 ∈ gn_T := gn_t 102 (by decide +kernel) (by decide +kernel)
theorem w_ml_L_X3 : Cond.methodLink RL 9 yX3_init ∈ gn_T := gn_t 113 (by decide +kernel) (by decide +kernel)
theorem my_X3_init : gn_My yX3_init cX3_init 1 none 0 := ⟨gn_t 115 (by decide +kernel) (by decide +kernel), gn_t 102 (by decide +kernel) (by decide +kernel), by decide +kernel, by decide +kernel, by decide +kernel⟩
theorem w_im_X3_init : Cond.instanceMethod yX3_init ∈ gn_T := gn_t 114 (by decide +kernel) (by decide +kernel)
theorem w_in_X4 : Cond.instantiable RX4 24 ∈ gn_T := gn_t 761 (by decide +kernel) (by decide +kernel)
theorem w_ini_X4 : Cond.initialized RX4 ∈ gn_T := gn_t 107 (by decide +kernel) (by decide +kernel)
theorem w_ml_L_X4 : Cond.methodLink RL 12 yX4_init ∈ gn_T := gn_t 762 (by decide +kernel) (by decide +kernel)
theorem my_X4_init : gn_My yX4_init cX4_init 2 none 0 := ⟨gn_t 764 (by decide +kernel) (by decide +kernel), gn_t 107 (by decide +kernel) (by decide +kernel), by decide +kernel, by decide +kernel, by decide +kernel⟩
theorem w_im_X4_init : Cond.instanceMethod yX4_init ∈ gn_T := gn_t 763 (by decide +kernel) (by decide +kernel)
/-- the memory of the two new objects -/
def gn_z1 (k : Nat) : Nat → Int32 := match k with
  | 0 => fun j => ([0, 0, 0, 0, 0, 0, 0, 0, 0, 0, 0, 0, 0] : List Int32).getD j 0
  | 1 => fun j => ([0, 0, 40] : List Int32).getD j 0
  | 3 => gk_fl 6 (-1) (fun _ => 0)
  | 4 => fun j => ([0, 0, 60] : List Int32).getD j 0
  | 6 => gk_fl 4 (-1) (fun _ => 0)
  | 7 => fun j => ([0, 0, 0, 0, 0, 0, 0, 0, 0, (-9), 0] : List Int32).getD j 0
  | 8 => fun j => ([0, 0, 0, 0, 0, 0, 0, 0] : List Int32).getD j 0
  | 23 => gk_fl 3 (-1) (fun _ => 0)
  | 38 => fun j => ([0, 0, 0, 0, 0, 0, 0, 0, 0, 0, 0, 0, 0, 0, 0, 0, 0, 0, 0, 0, 0, 0, 0, 0] : List Int32).getD j 0
  | 40 => upd (upd (upd (upd (upd (upd (fun _ => 0) (0 : Int32).toNatClampNeg (-1)) (1 : Int32).toNatClampNeg (-1)) (2 : Int32).toNatClampNeg (-1)) (3 : Int32).toNatClampNeg (-1)) (4 : Int32).toNatClampNeg (-1)) (5 : Int32).toNatClampNeg (-1)
  | 42 => upd (upd (upd (upd (fun _ => 0) (0 : Int32).toNatClampNeg (-1)) (1 : Int32).toNatClampNeg (-1)) (2 : Int32).toNatClampNeg (-1)) (3 : Int32).toNatClampNeg (-1)
  | 48 => upd (fun _ => 0) (8 : Int32).toNatClampNeg (-9)
  | 50 => upd (upd (upd (fun _ => 0) (0 : Int32).toNatClampNeg (-1)) (1 : Int32).toNatClampNeg (-1)) (2 : Int32).toNatClampNeg (-1)
  | _ => fun _ => 0
def gn_z2 (k : Nat) : Nat → Int64 := match k with
  | 0 => fun j => ([0, 0, 0, 0, 0, 0, 0, 0, 0, 0, 0, 0, 1] : List Int64).getD j 0
  | 1 => fun j => ([0, 0, 0] : List Int64).getD j 0
  | 4 => fun j => ([0, 0, 0] : List Int64).getD j 0
  | 7 => fun j => ([0, 0, 0, 0, 0, 0, 0, 0, 0, 0, 0] : List Int64).getD j 0
  | 8 => fun j => ([0, 0, 0, 0, 0, 0, 0, 0] : List Int64).getD j 0
  | 38 => fun j => ([0, 0, 0, 0, 1, 0, 0, 0, 0, 0, 0, 0, 0, 0, 0, 0, 0, 0, 0, 0, 0, 0, 0, 0] : List Int64).getD j 0
  | _ => fun _ => 0
def gn_0 : gn_M := (gn_z1, gn_z2)
def gn_ad (l : List Nat) (t b : Nat) : Nat → Nat := fun k => if k = 100 then t else if k = 101 then b else l.getD k 0
theorem gn_rows6 (ad : Nat → Nat) (r : Nat → Nat) (B n : Nat) (ts : List Nat) (hl : ts.length = n) (h : ∀ i, i < n → ts[i]? = some (B + i)) (ha : ∀ i, i < n → ad (B + i) = r i) : (fun i => (ts[i]?).map ad) = (fun i => if i < n then some (r i) else none) := by
  funext i
  by_cases hi : i < n
  · rw [if_pos hi, h i hi, Option.map_some, ha i hi]
  · rw [if_neg hi, List.getElem?_eq_none (by omega)]; rfl
theorem gn_eqi {args : Array Value} {s : State} {tm : Term} {z : Int32} (h : (Cond.eq tm (.int z)).before args s = true) : tm.eval args s none [] s = some (.int z) := by
  cases hv : tm.eval args s none [] s with
  | none => simp [Cond.before, Cond.holds, Cond.value, hv] at h
  | some w =>
    have hz : (Term.int z).eval args s none [] s = some (.int z) := rfl
    simp only [Cond.before, Cond.holds, Cond.value, hv, hz] at h
    cases w <;> simp_all
theorem gn_arrc {args : Array Value} {s : State} {ty : FieldType} (h : (Cond.arrayClass ty).before args s = true) (ho : ∀ C, ty ≠ .object C) : ∃ c : ClassId, ArrOfT s c ty ∧ va_RA s c ty := by
  obtain ⟨c, k, comp, h1, h2, h3⟩ := Cond.arrayClass_spec h
  refine ⟨c, fun N z => ⟨(fun q hq => by cases hq), k, h2, comp, h3⟩, ?_⟩
  cases ty <;> first | exact h1 | exact absurd rfl (ho _)
/-! THE CLAIM OUT OF ONE WALK OF THE LAW'S BODY. Your part is whole_start (and what it stands on); all else here is the same for every law, but numbers. -/
def R_law : String := "GateNamesLaw"
def lw_P (b : Addr) (xs : List Int32) (args : Array Value) (s : State) : Prop := args = #[.ref b] ∧ s.IntsAt b xs ∧ xs.length ≤ 3072 ∧ (Jvm.Cond.and given_1 narrow_1).before args s = true
def lw_Q (_ : Array Value) (s : State) (o : Outcome) (t : State) : Prop := o = .returned (some (.int 1)) ∧ Framed s o t [] 600000 7302250
def lw_Z (below : List Frame) (a : Array Value) (s : State) : State → Prop := fun t => ∃ o, t.status = .running ∧ Ended t below o ∧ lw_Q a s o t
/-- the law's own end, with 1 on the stack, nothing written that was there before, its room as the claim has it -/
theorem lw_ret {p : Program} {l : Launch} {e : Env} {s : State} {m : MethodId} {below : List Frame} {meth : Method} {c : Code} {b : Nat} (hx : p.tables.exec = Jvm.exec) (hb : c.code = code) (hr : meth.sig.returnType = ret) (hlocks : meth.locks = false) {pc : Nat} {H : Heap} {ls : Array Slot} (hdg : decode code pc = .ok (.ireturn, 1)) : W p l e room_1 s m #[Value.ref b] below meth c H [] 600000 7302250 (lw_Z below #[Value.ref b] s) (F0 m pc ls [.int 1]) := by
  intro T hT X
  obtain ⟨fs, hret, hrun, hended, hW, hframe⟩ := X.leave (v := some (.int 1)) (hlocks := hlocks) (fun h => by rw [hr] at h; cases h)
  have hmeth' : T.vm.method? m = some meth := X.method'
  refine ⟨T.setFrames fs, ?_, .returned (some (.int 1)), hrun, hended, rfl, ⟨_, rfl⟩, hW, hframe⟩
  jvm_step X.here [X.here.top, hx, hb, hdg, hmeth', hr, ret, narrow_b1]
  (try refine ⟨rfl, ?_⟩); (try refine ⟨rfl, ?_⟩)
  first | (intro acts; rw [hret _ acts rfl rfl rfl]) | rw [hret _ _ rfl rfl rfl]
  exact Steps.refl _
/-- what holds at the law's entry: the machine, the code, the tables' words (any of lw_tbl by 'hts w (by decide +kernel)'), the script of L ints xs at the cell b, what the Statement gives of the start (any of its parts by flat_of_before) -/
def lw_At (p : Program) (s : State) (m : MethodId) (meth : Method) (c : Code) (b L : Nat) (xs : Nat → Int32) : Prop :=
  p.tables.exec = Jvm.exec ∧ c.code = code ∧ meth.sig.returnType = ret ∧ c.maxLocals = 4 ∧ s.vm.findClass R_law = some m.cls ∧ (∀ w ∈ lw_tbl, w.before #[Value.ref b] s = true) ∧ va_X b L xs s s.heap ∧ b < s.heap.size ∧ meth.locks = false ∧ (Jvm.Cond.and given_1 narrow_1).before #[Value.ref b] s = true
set_option maxHeartbeats 16000000 in
set_option maxRecDepth 100000 in
/-- THE LAW, from its entry, out of what the pure functions answer -/
theorem start_of {p : Program} {e : Env} {s : State} {m : MethodId} {below : List Frame} {meth : Method} {c : Code} (l : Launch) {b L : Nat} {xs : Nat → Int32} (HP : ∃ (n : Nat) (v : Int32 × gn_M), f_law n L xs gn_0 = some v ∧ v.1 = 1) (C0 : lw_At p s m meth c b L xs) : W p l e room_1 s m #[Value.ref b] below meth c s.heap [] 0 0 (lw_Z below #[Value.ref b] s) (entryFrame m ([Value.ref b] : List Value).toArray 4) := by
  obtain ⟨hx, hb, hr, hml, hown, htl, hX, hbl, hlocks, hgv⟩ := id C0
  have hown : s.vm.findClass RL = some m.cls := hown
  have hts : ∀ w ∈ gn_T, w.before #[Value.ref b] s = true := fun w hw => htl w (List.mem_filter.mp hw).1
  obtain ⟨c0, iS0, hKn0⟩ := u_known (C := RX0) (T := TX0) (N := 11) (n := 11) hts cw_X0 (hts (.instantiable RX0 11) w_in_X0)
  obtain ⟨c1, iS1, hKn1⟩ := u_known (C := RX1) (T := TX1) (N := 8) (n := 8) hts cw_X1 (hts (.instantiable RX1 8) w_in_X1)
  obtain ⟨c2, iS2, hKn2⟩ := u_known (C := RX2) (T := TX2) (N := 3) (n := 3) hts cw_X2 (hts (.instantiable RX2 3) w_in_X2)
  obtain ⟨c3, iS3, hKn3⟩ := u_known (C := RX3) (T := TX3) (N := 13) (n := 13) hts cw_X3 (hts (.instantiable RX3 13) w_in_X3)
  obtain ⟨c4, iS4, hKn4⟩ := u_known (C := RX4) (T := TX4) (N := 24) (n := 24) hts cw_X4 (hts (.instantiable RX4 24) w_in_X4)
  obtain ⟨dC, dI, hKc⟩ : ∃ (dC : Nat → ClassId) (dI : Nat → Nat → Nat), ∀ (k : Nat) (q : vw_C), vwCl[k]? = some q → u_Kn s q.1 q.2.1 q.2.2 (dC k) (dI k) := by
    refine ⟨fun k => if k = 0 then c0 else if k = 1 then c1 else if k = 2 then c2 else if k = 3 then c3 else c4, fun k => if k = 0 then iS0 else if k = 1 then iS1 else if k = 2 then iS2 else if k = 3 then iS3 else iS4, ?_⟩
    intro k q hq
    match k, hq with
    | 0, hq => cases hq; exact hKn0
    | 1, hq => cases hq; exact hKn1
    | 2, hq => cases hq; exact hKn2
    | 3, hq => cases hq; exact hKn3
    | 4, hq => cases hq; exact hKn4
    | k + 5, hq => simp [vwCl] at hq
  obtain ⟨D, hDe⟩ : ∃ D : va_G, D = (dC, dI) := ⟨_, rfl⟩
  obtain ⟨cI, hI⟩ := gn_arrc (hts _ w_arrI) (fun C h => by cases h)
  obtain ⟨cB, hBy⟩ := gn_arrc (hts _ w_arrB) (fun C h => by cases h)
  obtain ⟨cZ, hZb⟩ := gn_arrc (hts _ w_arrZ) (fun C h => by cases h)
  have hK : va_K D vwCl [(cI, .int), (cB, .byte), (cZ, .boolean)] s := ⟨fun k q h => by subst hDe; exact hKc k q h, fun k q h => by
    match k, h with
    | 0, h => cases h; exact hI
    | 1, h => cases h; exact hBy
    | 2, h => cases h; exact hZb⟩
  have hNw : ∀ w ∈ gn_N, va_Nw w s := fun w hw => by
    have h1 := htl w (List.mem_filter.mp hw).1
    have hn := (List.mem_filter.mp hw).2
    cases w <;> first | (cases hn; done) | exact va_Nw.of rfl h1
  have hAO : gk_AO s := htl (Cond.arrayOver (.array .int)) (List.mem_of_getElem? (i := 126) (by decide +kernel))
  have hV : gk_V D cI cB cZ s := ⟨hNw, hK, hAO⟩
  have hfl := flat_of_before _ hgv
  have htm : (Cond.arrayOf (.static "GateNames" "LETTERS" "[I") .int).before #[Value.ref b] s = true := hfl _ (by decide +kernel)
  have hle : (Term.length (.static "GateNames" "LETTERS" "[I")).eval #[Value.ref b] s none [] s = some (.int 6) := gn_eqi (hfl _ (by decide +kernel))
  have he0 : (Term.elem (.static "GateNames" "LETTERS" "[I") (.int 0)).eval #[Value.ref b] s none [] s = some (.int 103) := gn_eqi (hfl _ (by decide +kernel))
  have he1 : (Term.elem (.static "GateNames" "LETTERS" "[I") (.int 1)).eval #[Value.ref b] s none [] s = some (.int 107) := gn_eqi (hfl _ (by decide +kernel))
  have he2 : (Term.elem (.static "GateNames" "LETTERS" "[I") (.int 2)).eval #[Value.ref b] s none [] s = some (.int 115) := gn_eqi (hfl _ (by decide +kernel))
  have he3 : (Term.elem (.static "GateNames" "LETTERS" "[I") (.int 3)).eval #[Value.ref b] s none [] s = some (.int 109) := gn_eqi (hfl _ (by decide +kernel))
  have he4 : (Term.elem (.static "GateNames" "LETTERS" "[I") (.int 4)).eval #[Value.ref b] s none [] s = some (.int 105) := gn_eqi (hfl _ (by decide +kernel))
  have he5 : (Term.elem (.static "GateNames" "LETTERS" "[I") (.int 5)).eval #[Value.ref b] s none [] s = some (.int 102) := gn_eqi (hfl _ (by decide +kernel))
  obtain ⟨t, hte, hT0⟩ := va_Tof (A := fun q : Nat => s.heap.size ≤ q) (f := fun j => .int (gn_let j)) (by decide) htm hle (fun j hj => by
    match j, hj with
    | 0, _ => exact he0
    | 1, _ => exact he1
    | 2, _ => exact he2
    | 3, _ => exact he3
    | 4, _ => exact he4
    | 5, _ => exact he5) (fun a h => Nat.not_le.mpr h)
  have hZ0 := va_Zref (A := fun q : Nat => s.heap.size ≤ q) (htl (Cond.laysStatic "GateNames" "LETTERS" "[I") (List.mem_of_getElem? (i := 360) (by decide +kernel))) (hts _ w_ini_X3) hte (fun a h => Nat.not_le.mpr h)
  have hA : ∀ q : Nat, s.heap.size ≤ q → (fun q : Nat => s.heap.size ≤ q) q := fun _ h => h
  have hS : va_S (fun q : Nat => s.heap.size ≤ q) s.heap s.heap [] := va_S.rf
  have hP : va_P D vwCl [] s.heap := fun k q h => by simp at h
  have hD : va_D (fun q : Nat => s.heap.size ≤ q) [] := ⟨fun i j p q h => by simp at h, fun k q h => by simp at h⟩
  have hl := lv_entry ([.ref b]) (n := 4) (Nat.le_of_ble_eq_true rfl)
  rw [lg_entry_eq]
  generalize (lg_sl ([.ref b]) ++ List.replicate (4 - (lg_sl ([.ref b])).length) Slot.unset).toArray = ls at hl ⊢
  have hl : lv_has ls 4 [(0, .ref b)] := hl
  refine va_new (ci := 3) (fs := [.null, .null, .null, .null, .null, .null, .null, .null, .null, .int 0, .int 0, .long 0, .long 0]) (C := RX3) (T := TX3) (N := 13) hx hb hts cw_X3 tyX3 tyX3_ok hown (hts _ w_cl_L_7) (hts _ w_in_X3) (hts _ w_ini_X3) hK hP hD hS hA rfl (fun j hj => by rcases (show j = 0 ∨ j = 1 ∨ j = 2 ∨ j = 3 ∨ j = 4 ∨ j = 5 ∨ j = 6 ∨ j = 7 ∨ j = 8 ∨ j = 9 ∨ j = 10 ∨ j = 11 ∨ j = 12 by omega) with rfl | rfl | rfl | rfl | rfl | rfl | rfl | rfl | rfl | rfl | rfl | rfl | rfl <;> rfl) (Nat.le_of_ble_eq_true rfl) (Nat.le_of_ble_eq_true rfl) dL_law_0 (fun ga H hP hD hS => ?_)
  refine W.widen (k := 1) (n := 13) (by omega) (by omega) ?_
  have hP : va_P D vwCl [(ga, .inr (3, [.null, .null, .null, .null, .null, .null, .null, .null, .null, .int 0, .int 0, .long 0, .long 0]))] H := hP
  have hD : va_D (fun q : Nat => s.heap.size ≤ q) [(ga, .inr (3, [.null, .null, .null, .null, .null, .null, .null, .null, .null, .int 0, .int 0, .long 0, .long 0]))] := hD
  refine lv_dup hx hb dL_law_3 rfl ?_
  have hPc := hP.sub (ws' := [(ga, .inr (3, [.null, .null, .null, .null, .null, .null, .null, .null, .null, .int 0, .int 0, .long 0, .long 0]))]) [0] rfl
  have hFc : ∀ q, gk_A ga H.size q → s.heap.size ≤ q := fun q h => h.elim (fun e => e ▸ hD.2 0 _ rfl) (fun h => by have := hS.1; omega)
  refine va_callv (va_runI (As := []) (rest := [.ref ga]) (nL := 4) (Ts := gn_T) (n := 0) ⟨hx, hb, hml, hown, hts⟩ (k_X3 l D cI cB cZ ga H.size) (cwI 0 hts (gn_T_good (fun w h => h) my_X3_init.1) rfl rfl rfl (hts _ my_X3_init.2.1) (hts _ w_ml_L_X3) (hts _ w_im_X3_init) rfl my_X3_init.2.2 ⟨Nat.le_of_ble_eq_true rfl, Nat.le_of_ble_eq_true rfl⟩) ⟨fun a U g mk q => ⟨q.1, q.2.1, q.2.2.1.blind, q.2.2.2⟩, fun U hU hW => ⟨rfl, by rw [hU], hV.to hW, by rw [hU]; exact hPc⟩⟩ rfl rfl hl.1 rfl (lv_room (Nat.le_of_ble_eq_true rfl)) dL_law_4 ⟨Nat.le_of_ble_eq_true rfl, Nat.le_of_ble_eq_true rfl⟩) hS (fun q _ h => hFc q h) hFc (fun u t1 H1 locs ht hvm hw hB hz1 hk1 hS => ?_)
  obtain ⟨aq1, aq2, ar3, aq4, aq6, aq7, ar8, aq9, aq11, aq12, aq13, aq14, aq15, aq16, aq17, aq18, aq19, aq20, aq21, aq22, aq23, aq24, ar25, aq27, aq28, aq29, aq30, ac5, ac10, ac26, hP1, hD1, hac5, hac10, hac26⟩ := hB
  rw [ht] at hP1
  have hac5 : gk_II D ac5 s := va_K.moved hvm.symm hac5
  have hac10 : gk_II D ac10 s := va_K.moved hvm.symm hac10
  have hac26 : gk_II D ac26 s := va_K.moved hvm.symm hac26
  obtain ⟨hP, hD⟩ := gk_join2 (wr := []) (wc := [(ga, .inr (3, [.null, .null, .null, .null, .null, .null, .null, .null, .null, .int 0, .int 0, .long 0, .long 0]))]) (w1 := [(ga, .inr (3, [.ref aq1, .ref aq6, .ref aq11, .ref aq18, .ref aq24, .ref aq27, .ref aq28, .ref aq29, .ref aq30, .int 0, .int 0, .long 0, .long 1])), (aq1, .inr (2, [.ref aq2, .ref aq4, .int 40])), (aq2, .inl (ac5, 6, .inr (.inr (.inr (.inr (fun i => if i < 6 then some (ar3 i) else none)))))), ((ar3 0), .inl (cI, 40, .inl (fun _ => 0))), ((ar3 1), .inl (cI, 40, .inl (fun _ => 0))), ((ar3 2), .inl (cI, 40, .inl (fun _ => 0))), ((ar3 3), .inl (cI, 40, .inl (fun _ => 0))), ((ar3 4), .inl (cI, 40, .inl (fun _ => 0))), ((ar3 5), .inl (cI, 40, .inl (fun _ => 0))), (aq4, .inl (cI, 6, .inl (gk_fl 6 (-1) (fun _ => 0)))), (aq6, .inr (2, [.ref aq7, .ref aq9, .int 60])), (aq7, .inl (ac10, 4, .inr (.inr (.inr (.inr (fun i => if i < 4 then some (ar8 i) else none)))))), ((ar8 0), .inl (cI, 60, .inl (fun _ => 0))), ((ar8 1), .inl (cI, 60, .inl (fun _ => 0))), ((ar8 2), .inl (cI, 60, .inl (fun _ => 0))), ((ar8 3), .inl (cI, 60, .inl (fun _ => 0))), (aq9, .inl (cI, 4, .inl (gk_fl 4 (-1) (fun _ => 0)))), (aq11, .inr (0, [.ref aq12, .ref aq13, .ref aq14, .ref aq15, .ref aq16, .ref aq17, .int 0, .int 0, .int 0, .int (-9), .int 0])), (aq12, .inl (cI, 7, .inl (fun _ => 0))), (aq13, .inl (cI, 7, .inl (fun _ => 0))), (aq14, .inl (cI, 7, .inl (fun _ => 0))), (aq15, .inl (cI, 7, .inl (fun _ => 0))), (aq16, .inl (cI, 6, .inl (fun _ => 0))), (aq17, .inl (cI, 40, .inl (fun _ => 0))), (aq18, .inr (1, [.ref aq19, .ref aq20, .ref aq21, .ref aq22, .ref aq23, .int 0, .int 0, .int 0])), (aq19, .inl (cI, 7, .inl (fun _ => 0))), (aq20, .inl (cI, 128, .inl (fun _ => 0))), (aq21, .inl (cI, 128, .inl (fun _ => 0))), (aq22, .inl (cI, 128, .inl (fun _ => 0))), (aq23, .inl (cI, 896, .inl (fun _ => 0))), (aq24, .inl (ac26, 3, .inr (.inr (.inr (.inr (fun i => if i < 3 then some (ar25 i) else none)))))), ((ar25 0), .inl (cI, 40, .inl (fun _ => 0))), ((ar25 1), .inl (cI, 40, .inl (fun _ => 0))), ((ar25 2), .inl (cI, 40, .inl (fun _ => 0))), (aq28, .inl (cI, 7, .inl (fun _ => 0))), (aq29, .inl (cI, 7, .inl (fun _ => 0))), (aq30, .inl (cI, 6, .inl (fun _ => 0))), (aq27, .inl (cI, 3, .inl (gk_fl 3 (-1) (fun _ => 0))))]) hP hD [0] [] rfl rfl (by decide) (by decide) hk1 hFc hP1 hD1
  generalize H1 = H at hP hS ⊢
  refine W.widen (k := 38) (n := 2045) (by omega) (by omega) ?_
  have hP : va_P D vwCl [(ga, .inr (3, [.ref aq1, .ref aq6, .ref aq11, .ref aq18, .ref aq24, .ref aq27, .ref aq28, .ref aq29, .ref aq30, .int 0, .int 0, .long 0, .long 1])), (aq1, .inr (2, [.ref aq2, .ref aq4, .int 40])), (aq2, .inl (ac5, 6, .inr (.inr (.inr (.inr (fun i => if i < 6 then some (ar3 i) else none)))))), ((ar3 0), .inl (cI, 40, .inl (fun _ => 0))), ((ar3 1), .inl (cI, 40, .inl (fun _ => 0))), ((ar3 2), .inl (cI, 40, .inl (fun _ => 0))), ((ar3 3), .inl (cI, 40, .inl (fun _ => 0))), ((ar3 4), .inl (cI, 40, .inl (fun _ => 0))), ((ar3 5), .inl (cI, 40, .inl (fun _ => 0))), (aq4, .inl (cI, 6, .inl (gk_fl 6 (-1) (fun _ => 0)))), (aq6, .inr (2, [.ref aq7, .ref aq9, .int 60])), (aq7, .inl (ac10, 4, .inr (.inr (.inr (.inr (fun i => if i < 4 then some (ar8 i) else none)))))), ((ar8 0), .inl (cI, 60, .inl (fun _ => 0))), ((ar8 1), .inl (cI, 60, .inl (fun _ => 0))), ((ar8 2), .inl (cI, 60, .inl (fun _ => 0))), ((ar8 3), .inl (cI, 60, .inl (fun _ => 0))), (aq9, .inl (cI, 4, .inl (gk_fl 4 (-1) (fun _ => 0)))), (aq11, .inr (0, [.ref aq12, .ref aq13, .ref aq14, .ref aq15, .ref aq16, .ref aq17, .int 0, .int 0, .int 0, .int (-9), .int 0])), (aq12, .inl (cI, 7, .inl (fun _ => 0))), (aq13, .inl (cI, 7, .inl (fun _ => 0))), (aq14, .inl (cI, 7, .inl (fun _ => 0))), (aq15, .inl (cI, 7, .inl (fun _ => 0))), (aq16, .inl (cI, 6, .inl (fun _ => 0))), (aq17, .inl (cI, 40, .inl (fun _ => 0))), (aq18, .inr (1, [.ref aq19, .ref aq20, .ref aq21, .ref aq22, .ref aq23, .int 0, .int 0, .int 0])), (aq19, .inl (cI, 7, .inl (fun _ => 0))), (aq20, .inl (cI, 128, .inl (fun _ => 0))), (aq21, .inl (cI, 128, .inl (fun _ => 0))), (aq22, .inl (cI, 128, .inl (fun _ => 0))), (aq23, .inl (cI, 896, .inl (fun _ => 0))), (aq24, .inl (ac26, 3, .inr (.inr (.inr (.inr (fun i => if i < 3 then some (ar25 i) else none)))))), ((ar25 0), .inl (cI, 40, .inl (fun _ => 0))), ((ar25 1), .inl (cI, 40, .inl (fun _ => 0))), ((ar25 2), .inl (cI, 40, .inl (fun _ => 0))), (aq28, .inl (cI, 7, .inl (fun _ => 0))), (aq29, .inl (cI, 7, .inl (fun _ => 0))), (aq30, .inl (cI, 6, .inl (fun _ => 0))), (aq27, .inl (cI, 3, .inl (gk_fl 3 (-1) (fun _ => 0))))] H := hP
  have hD : va_D (fun q : Nat => s.heap.size ≤ q) [(ga, .inr (3, [.ref aq1, .ref aq6, .ref aq11, .ref aq18, .ref aq24, .ref aq27, .ref aq28, .ref aq29, .ref aq30, .int 0, .int 0, .long 0, .long 1])), (aq1, .inr (2, [.ref aq2, .ref aq4, .int 40])), (aq2, .inl (ac5, 6, .inr (.inr (.inr (.inr (fun i => if i < 6 then some (ar3 i) else none)))))), ((ar3 0), .inl (cI, 40, .inl (fun _ => 0))), ((ar3 1), .inl (cI, 40, .inl (fun _ => 0))), ((ar3 2), .inl (cI, 40, .inl (fun _ => 0))), ((ar3 3), .inl (cI, 40, .inl (fun _ => 0))), ((ar3 4), .inl (cI, 40, .inl (fun _ => 0))), ((ar3 5), .inl (cI, 40, .inl (fun _ => 0))), (aq4, .inl (cI, 6, .inl (gk_fl 6 (-1) (fun _ => 0)))), (aq6, .inr (2, [.ref aq7, .ref aq9, .int 60])), (aq7, .inl (ac10, 4, .inr (.inr (.inr (.inr (fun i => if i < 4 then some (ar8 i) else none)))))), ((ar8 0), .inl (cI, 60, .inl (fun _ => 0))), ((ar8 1), .inl (cI, 60, .inl (fun _ => 0))), ((ar8 2), .inl (cI, 60, .inl (fun _ => 0))), ((ar8 3), .inl (cI, 60, .inl (fun _ => 0))), (aq9, .inl (cI, 4, .inl (gk_fl 4 (-1) (fun _ => 0)))), (aq11, .inr (0, [.ref aq12, .ref aq13, .ref aq14, .ref aq15, .ref aq16, .ref aq17, .int 0, .int 0, .int 0, .int (-9), .int 0])), (aq12, .inl (cI, 7, .inl (fun _ => 0))), (aq13, .inl (cI, 7, .inl (fun _ => 0))), (aq14, .inl (cI, 7, .inl (fun _ => 0))), (aq15, .inl (cI, 7, .inl (fun _ => 0))), (aq16, .inl (cI, 6, .inl (fun _ => 0))), (aq17, .inl (cI, 40, .inl (fun _ => 0))), (aq18, .inr (1, [.ref aq19, .ref aq20, .ref aq21, .ref aq22, .ref aq23, .int 0, .int 0, .int 0])), (aq19, .inl (cI, 7, .inl (fun _ => 0))), (aq20, .inl (cI, 128, .inl (fun _ => 0))), (aq21, .inl (cI, 128, .inl (fun _ => 0))), (aq22, .inl (cI, 128, .inl (fun _ => 0))), (aq23, .inl (cI, 896, .inl (fun _ => 0))), (aq24, .inl (ac26, 3, .inr (.inr (.inr (.inr (fun i => if i < 3 then some (ar25 i) else none)))))), ((ar25 0), .inl (cI, 40, .inl (fun _ => 0))), ((ar25 1), .inl (cI, 40, .inl (fun _ => 0))), ((ar25 2), .inl (cI, 40, .inl (fun _ => 0))), (aq28, .inl (cI, 7, .inl (fun _ => 0))), (aq29, .inl (cI, 7, .inl (fun _ => 0))), (aq30, .inl (cI, 6, .inl (fun _ => 0))), (aq27, .inl (cI, 3, .inl (gk_fl 3 (-1) (fun _ => 0))))] := hD
  refine lv_astore_n (lv' := [(1, .ref ga), (0, .ref b)]) hx hb dL_law_7 rfl hl (by decide) rfl (fun ls hl => ?_)
  refine va_new (ci := 4) (fs := [.int 0, .null, .int 0, .long 0, .long 0, .null, .null, .null, .null, .null, .int 0, .null, .null, .null, .int 0, .null, .int 0, .null, .null, .null, .null, .null, .null, .null]) (C := RX4) (T := TX4) (N := 24) hx hb hts cw_X4 tyX4 tyX4_ok hown (hts _ w_cl_L_10) (hts _ w_in_X4) (hts _ w_ini_X4) hK hP hD hS hA rfl (fun j hj => by rcases (show j = 0 ∨ j = 1 ∨ j = 2 ∨ j = 3 ∨ j = 4 ∨ j = 5 ∨ j = 6 ∨ j = 7 ∨ j = 8 ∨ j = 9 ∨ j = 10 ∨ j = 11 ∨ j = 12 ∨ j = 13 ∨ j = 14 ∨ j = 15 ∨ j = 16 ∨ j = 17 ∨ j = 18 ∨ j = 19 ∨ j = 20 ∨ j = 21 ∨ j = 22 ∨ j = 23 by omega) with rfl | rfl | rfl | rfl | rfl | rfl | rfl | rfl | rfl | rfl | rfl | rfl | rfl | rfl | rfl | rfl | rfl | rfl | rfl | rfl | rfl | rfl | rfl | rfl <;> rfl) (Nat.le_of_ble_eq_true rfl) (Nat.le_of_ble_eq_true rfl) dL_law_8 (fun gb H hP hD hS => ?_)
  refine W.widen (k := 39) (n := 2069) (by omega) (by omega) ?_
  have hP : va_P D vwCl [(ga, .inr (3, [.ref aq1, .ref aq6, .ref aq11, .ref aq18, .ref aq24, .ref aq27, .ref aq28, .ref aq29, .ref aq30, .int 0, .int 0, .long 0, .long 1])), (aq1, .inr (2, [.ref aq2, .ref aq4, .int 40])), (aq2, .inl (ac5, 6, .inr (.inr (.inr (.inr (fun i => if i < 6 then some (ar3 i) else none)))))), ((ar3 0), .inl (cI, 40, .inl (fun _ => 0))), ((ar3 1), .inl (cI, 40, .inl (fun _ => 0))), ((ar3 2), .inl (cI, 40, .inl (fun _ => 0))), ((ar3 3), .inl (cI, 40, .inl (fun _ => 0))), ((ar3 4), .inl (cI, 40, .inl (fun _ => 0))), ((ar3 5), .inl (cI, 40, .inl (fun _ => 0))), (aq4, .inl (cI, 6, .inl (gk_fl 6 (-1) (fun _ => 0)))), (aq6, .inr (2, [.ref aq7, .ref aq9, .int 60])), (aq7, .inl (ac10, 4, .inr (.inr (.inr (.inr (fun i => if i < 4 then some (ar8 i) else none)))))), ((ar8 0), .inl (cI, 60, .inl (fun _ => 0))), ((ar8 1), .inl (cI, 60, .inl (fun _ => 0))), ((ar8 2), .inl (cI, 60, .inl (fun _ => 0))), ((ar8 3), .inl (cI, 60, .inl (fun _ => 0))), (aq9, .inl (cI, 4, .inl (gk_fl 4 (-1) (fun _ => 0)))), (aq11, .inr (0, [.ref aq12, .ref aq13, .ref aq14, .ref aq15, .ref aq16, .ref aq17, .int 0, .int 0, .int 0, .int (-9), .int 0])), (aq12, .inl (cI, 7, .inl (fun _ => 0))), (aq13, .inl (cI, 7, .inl (fun _ => 0))), (aq14, .inl (cI, 7, .inl (fun _ => 0))), (aq15, .inl (cI, 7, .inl (fun _ => 0))), (aq16, .inl (cI, 6, .inl (fun _ => 0))), (aq17, .inl (cI, 40, .inl (fun _ => 0))), (aq18, .inr (1, [.ref aq19, .ref aq20, .ref aq21, .ref aq22, .ref aq23, .int 0, .int 0, .int 0])), (aq19, .inl (cI, 7, .inl (fun _ => 0))), (aq20, .inl (cI, 128, .inl (fun _ => 0))), (aq21, .inl (cI, 128, .inl (fun _ => 0))), (aq22, .inl (cI, 128, .inl (fun _ => 0))), (aq23, .inl (cI, 896, .inl (fun _ => 0))), (aq24, .inl (ac26, 3, .inr (.inr (.inr (.inr (fun i => if i < 3 then some (ar25 i) else none)))))), ((ar25 0), .inl (cI, 40, .inl (fun _ => 0))), ((ar25 1), .inl (cI, 40, .inl (fun _ => 0))), ((ar25 2), .inl (cI, 40, .inl (fun _ => 0))), (aq28, .inl (cI, 7, .inl (fun _ => 0))), (aq29, .inl (cI, 7, .inl (fun _ => 0))), (aq30, .inl (cI, 6, .inl (fun _ => 0))), (aq27, .inl (cI, 3, .inl (gk_fl 3 (-1) (fun _ => 0)))), (gb, .inr (4, [.int 0, .null, .int 0, .long 0, .long 0, .null, .null, .null, .null, .null, .int 0, .null, .null, .null, .int 0, .null, .int 0, .null, .null, .null, .null, .null, .null, .null]))] H := hP
  have hD : va_D (fun q : Nat => s.heap.size ≤ q) [(ga, .inr (3, [.ref aq1, .ref aq6, .ref aq11, .ref aq18, .ref aq24, .ref aq27, .ref aq28, .ref aq29, .ref aq30, .int 0, .int 0, .long 0, .long 1])), (aq1, .inr (2, [.ref aq2, .ref aq4, .int 40])), (aq2, .inl (ac5, 6, .inr (.inr (.inr (.inr (fun i => if i < 6 then some (ar3 i) else none)))))), ((ar3 0), .inl (cI, 40, .inl (fun _ => 0))), ((ar3 1), .inl (cI, 40, .inl (fun _ => 0))), ((ar3 2), .inl (cI, 40, .inl (fun _ => 0))), ((ar3 3), .inl (cI, 40, .inl (fun _ => 0))), ((ar3 4), .inl (cI, 40, .inl (fun _ => 0))), ((ar3 5), .inl (cI, 40, .inl (fun _ => 0))), (aq4, .inl (cI, 6, .inl (gk_fl 6 (-1) (fun _ => 0)))), (aq6, .inr (2, [.ref aq7, .ref aq9, .int 60])), (aq7, .inl (ac10, 4, .inr (.inr (.inr (.inr (fun i => if i < 4 then some (ar8 i) else none)))))), ((ar8 0), .inl (cI, 60, .inl (fun _ => 0))), ((ar8 1), .inl (cI, 60, .inl (fun _ => 0))), ((ar8 2), .inl (cI, 60, .inl (fun _ => 0))), ((ar8 3), .inl (cI, 60, .inl (fun _ => 0))), (aq9, .inl (cI, 4, .inl (gk_fl 4 (-1) (fun _ => 0)))), (aq11, .inr (0, [.ref aq12, .ref aq13, .ref aq14, .ref aq15, .ref aq16, .ref aq17, .int 0, .int 0, .int 0, .int (-9), .int 0])), (aq12, .inl (cI, 7, .inl (fun _ => 0))), (aq13, .inl (cI, 7, .inl (fun _ => 0))), (aq14, .inl (cI, 7, .inl (fun _ => 0))), (aq15, .inl (cI, 7, .inl (fun _ => 0))), (aq16, .inl (cI, 6, .inl (fun _ => 0))), (aq17, .inl (cI, 40, .inl (fun _ => 0))), (aq18, .inr (1, [.ref aq19, .ref aq20, .ref aq21, .ref aq22, .ref aq23, .int 0, .int 0, .int 0])), (aq19, .inl (cI, 7, .inl (fun _ => 0))), (aq20, .inl (cI, 128, .inl (fun _ => 0))), (aq21, .inl (cI, 128, .inl (fun _ => 0))), (aq22, .inl (cI, 128, .inl (fun _ => 0))), (aq23, .inl (cI, 896, .inl (fun _ => 0))), (aq24, .inl (ac26, 3, .inr (.inr (.inr (.inr (fun i => if i < 3 then some (ar25 i) else none)))))), ((ar25 0), .inl (cI, 40, .inl (fun _ => 0))), ((ar25 1), .inl (cI, 40, .inl (fun _ => 0))), ((ar25 2), .inl (cI, 40, .inl (fun _ => 0))), (aq28, .inl (cI, 7, .inl (fun _ => 0))), (aq29, .inl (cI, 7, .inl (fun _ => 0))), (aq30, .inl (cI, 6, .inl (fun _ => 0))), (aq27, .inl (cI, 3, .inl (gk_fl 3 (-1) (fun _ => 0)))), (gb, .inr (4, [.int 0, .null, .int 0, .long 0, .long 0, .null, .null, .null, .null, .null, .int 0, .null, .null, .null, .int 0, .null, .int 0, .null, .null, .null, .null, .null, .null, .null]))] := hD
  refine lv_dup hx hb dL_law_11 rfl ?_
  have hPc := hP.sub (ws' := [(gb, .inr (4, [.int 0, .null, .int 0, .long 0, .long 0, .null, .null, .null, .null, .null, .int 0, .null, .null, .null, .int 0, .null, .int 0, .null, .null, .null, .null, .null, .null, .null]))]) [38] rfl
  have hFc : ∀ q, gk_A gb H.size q → s.heap.size ≤ q := fun q h => h.elim (fun e => e ▸ hD.2 38 _ rfl) (fun h => by have := hS.1; omega)
  refine va_callv (va_runI (As := []) (rest := [.ref gb]) (nL := 4) (Ts := gn_T) (n := 0) ⟨hx, hb, hml, hown, hts⟩ (k_X4 l D cI cB cZ gb H.size) (cwI 0 hts (gn_T_good (fun w h => h) my_X4_init.1) rfl rfl rfl (hts _ my_X4_init.2.1) (hts _ w_ml_L_X4) (hts _ w_im_X4_init) rfl my_X4_init.2.2 ⟨Nat.le_of_ble_eq_true rfl, Nat.le_of_ble_eq_true rfl⟩) ⟨fun a U g mk q => ⟨q.1, q.2.1, q.2.2.1.blind, q.2.2.2⟩, fun U hU hW => ⟨rfl, by rw [hU], hV.to hW, by rw [hU]; exact hPc⟩⟩ rfl rfl hl.1 rfl (lv_room (Nat.le_of_ble_eq_true rfl)) dL_law_12 ⟨Nat.le_of_ble_eq_true rfl, Nat.le_of_ble_eq_true rfl⟩) hS (fun q _ h => hFc q h) hFc (fun u t1 H1 locs ht hvm hw hB hz1 hk1 hS => ?_)
  obtain ⟨bq1, bq2, bq3, bq4, bq5, bq6, bq7, bq8, bq9, bq10, bq11, bq12, bq13, bq14, bq15, bq16, bq17, hP1, hD1⟩ := hB
  rw [ht] at hP1
  obtain ⟨hP, hD⟩ := gk_join2 (wr := [(ga, .inr (3, [.ref aq1, .ref aq6, .ref aq11, .ref aq18, .ref aq24, .ref aq27, .ref aq28, .ref aq29, .ref aq30, .int 0, .int 0, .long 0, .long 1])), (aq1, .inr (2, [.ref aq2, .ref aq4, .int 40])), (aq2, .inl (ac5, 6, .inr (.inr (.inr (.inr (fun i => if i < 6 then some (ar3 i) else none)))))), ((ar3 0), .inl (cI, 40, .inl (fun _ => 0))), ((ar3 1), .inl (cI, 40, .inl (fun _ => 0))), ((ar3 2), .inl (cI, 40, .inl (fun _ => 0))), ((ar3 3), .inl (cI, 40, .inl (fun _ => 0))), ((ar3 4), .inl (cI, 40, .inl (fun _ => 0))), ((ar3 5), .inl (cI, 40, .inl (fun _ => 0))), (aq4, .inl (cI, 6, .inl (gk_fl 6 (-1) (fun _ => 0)))), (aq6, .inr (2, [.ref aq7, .ref aq9, .int 60])), (aq7, .inl (ac10, 4, .inr (.inr (.inr (.inr (fun i => if i < 4 then some (ar8 i) else none)))))), ((ar8 0), .inl (cI, 60, .inl (fun _ => 0))), ((ar8 1), .inl (cI, 60, .inl (fun _ => 0))), ((ar8 2), .inl (cI, 60, .inl (fun _ => 0))), ((ar8 3), .inl (cI, 60, .inl (fun _ => 0))), (aq9, .inl (cI, 4, .inl (gk_fl 4 (-1) (fun _ => 0)))), (aq11, .inr (0, [.ref aq12, .ref aq13, .ref aq14, .ref aq15, .ref aq16, .ref aq17, .int 0, .int 0, .int 0, .int (-9), .int 0])), (aq12, .inl (cI, 7, .inl (fun _ => 0))), (aq13, .inl (cI, 7, .inl (fun _ => 0))), (aq14, .inl (cI, 7, .inl (fun _ => 0))), (aq15, .inl (cI, 7, .inl (fun _ => 0))), (aq16, .inl (cI, 6, .inl (fun _ => 0))), (aq17, .inl (cI, 40, .inl (fun _ => 0))), (aq18, .inr (1, [.ref aq19, .ref aq20, .ref aq21, .ref aq22, .ref aq23, .int 0, .int 0, .int 0])), (aq19, .inl (cI, 7, .inl (fun _ => 0))), (aq20, .inl (cI, 128, .inl (fun _ => 0))), (aq21, .inl (cI, 128, .inl (fun _ => 0))), (aq22, .inl (cI, 128, .inl (fun _ => 0))), (aq23, .inl (cI, 896, .inl (fun _ => 0))), (aq24, .inl (ac26, 3, .inr (.inr (.inr (.inr (fun i => if i < 3 then some (ar25 i) else none)))))), ((ar25 0), .inl (cI, 40, .inl (fun _ => 0))), ((ar25 1), .inl (cI, 40, .inl (fun _ => 0))), ((ar25 2), .inl (cI, 40, .inl (fun _ => 0))), (aq28, .inl (cI, 7, .inl (fun _ => 0))), (aq29, .inl (cI, 7, .inl (fun _ => 0))), (aq30, .inl (cI, 6, .inl (fun _ => 0))), (aq27, .inl (cI, 3, .inl (gk_fl 3 (-1) (fun _ => 0))))]) (wc := [(gb, .inr (4, [.int 0, .null, .int 0, .long 0, .long 0, .null, .null, .null, .null, .null, .int 0, .null, .null, .null, .int 0, .null, .int 0, .null, .null, .null, .null, .null, .null, .null]))]) (w1 := [(gb, .inr (4, [.int 0, .ref bq1, .int 0, .long 0, .long 1, .ref bq2, .ref bq3, .ref bq4, .ref bq5, .ref bq6, .int 0, .ref bq7, .ref bq8, .ref bq9, .int 0, .ref bq10, .int 0, .ref bq11, .ref bq12, .ref bq13, .ref bq14, .ref bq15, .ref bq16, .ref bq17])), (bq1, .inl (cI, 6, .inl (fun _ => 0))), (bq2, .inl (cI, 6, .inl (upd (upd (upd (upd (upd (upd (fun _ => 0) (0 : Int32).toNatClampNeg (-1)) (1 : Int32).toNatClampNeg (-1)) (2 : Int32).toNatClampNeg (-1)) (3 : Int32).toNatClampNeg (-1)) (4 : Int32).toNatClampNeg (-1)) (5 : Int32).toNatClampNeg (-1)))), (bq3, .inl (cI, 240, .inl (fun _ => 0))), (bq4, .inl (cI, 4, .inl (upd (upd (upd (upd (fun _ => 0) (0 : Int32).toNatClampNeg (-1)) (1 : Int32).toNatClampNeg (-1)) (2 : Int32).toNatClampNeg (-1)) (3 : Int32).toNatClampNeg (-1)))), (bq5, .inl (cB, 240, .inl (fun _ => 0))), (bq6, .inl (cI, 40, .inl (fun _ => 0))), (bq7, .inl (cI, 14, .inl (fun _ => 0))), (bq8, .inl (cI, 14, .inl (fun _ => 0))), (bq9, .inl (cI, 14, .inl (fun _ => 0))), (bq10, .inl (cI, 410, .inl (upd (fun _ => 0) (8 : Int32).toNatClampNeg (-9)))), (bq11, .inl (cI, 1230, .inl (fun _ => 0))), (bq12, .inl (cI, 3, .inl (upd (upd (upd (fun _ => 0) (0 : Int32).toNatClampNeg (-1)) (1 : Int32).toNatClampNeg (-1)) (2 : Int32).toNatClampNeg (-1)))), (bq13, .inl (cI, 7, .inl (fun _ => 0))), (bq14, .inl (cI, 896, .inl (fun _ => 0))), (bq15, .inl (cI, 1024, .inl (fun _ => 0))), (bq16, .inl (cI, 7, .inl (fun _ => 0))), (bq17, .inl (cZ, 1024, .inl (fun _ => 0)))]) hP hD [38] [0, 1, 2, 3, 4, 5, 6, 7, 8, 9, 10, 11, 12, 13, 14, 15, 16, 17, 18, 19, 20, 21, 22, 23, 24, 25, 26, 27, 28, 29, 30, 31, 32, 33, 34, 35, 36, 37] rfl rfl (by decide) (by decide) hk1 hFc hP1 hD1
  generalize H1 = H at hP hS ⊢
  refine W.widen (k := 56) (n := 7248) (by omega) (by omega) ?_
  have hP : va_P D vwCl [(ga, .inr (3, [.ref aq1, .ref aq6, .ref aq11, .ref aq18, .ref aq24, .ref aq27, .ref aq28, .ref aq29, .ref aq30, .int 0, .int 0, .long 0, .long 1])), (aq1, .inr (2, [.ref aq2, .ref aq4, .int 40])), (aq2, .inl (ac5, 6, .inr (.inr (.inr (.inr (fun i => if i < 6 then some (ar3 i) else none)))))), ((ar3 0), .inl (cI, 40, .inl (fun _ => 0))), ((ar3 1), .inl (cI, 40, .inl (fun _ => 0))), ((ar3 2), .inl (cI, 40, .inl (fun _ => 0))), ((ar3 3), .inl (cI, 40, .inl (fun _ => 0))), ((ar3 4), .inl (cI, 40, .inl (fun _ => 0))), ((ar3 5), .inl (cI, 40, .inl (fun _ => 0))), (aq4, .inl (cI, 6, .inl (gk_fl 6 (-1) (fun _ => 0)))), (aq6, .inr (2, [.ref aq7, .ref aq9, .int 60])), (aq7, .inl (ac10, 4, .inr (.inr (.inr (.inr (fun i => if i < 4 then some (ar8 i) else none)))))), ((ar8 0), .inl (cI, 60, .inl (fun _ => 0))), ((ar8 1), .inl (cI, 60, .inl (fun _ => 0))), ((ar8 2), .inl (cI, 60, .inl (fun _ => 0))), ((ar8 3), .inl (cI, 60, .inl (fun _ => 0))), (aq9, .inl (cI, 4, .inl (gk_fl 4 (-1) (fun _ => 0)))), (aq11, .inr (0, [.ref aq12, .ref aq13, .ref aq14, .ref aq15, .ref aq16, .ref aq17, .int 0, .int 0, .int 0, .int (-9), .int 0])), (aq12, .inl (cI, 7, .inl (fun _ => 0))), (aq13, .inl (cI, 7, .inl (fun _ => 0))), (aq14, .inl (cI, 7, .inl (fun _ => 0))), (aq15, .inl (cI, 7, .inl (fun _ => 0))), (aq16, .inl (cI, 6, .inl (fun _ => 0))), (aq17, .inl (cI, 40, .inl (fun _ => 0))), (aq18, .inr (1, [.ref aq19, .ref aq20, .ref aq21, .ref aq22, .ref aq23, .int 0, .int 0, .int 0])), (aq19, .inl (cI, 7, .inl (fun _ => 0))), (aq20, .inl (cI, 128, .inl (fun _ => 0))), (aq21, .inl (cI, 128, .inl (fun _ => 0))), (aq22, .inl (cI, 128, .inl (fun _ => 0))), (aq23, .inl (cI, 896, .inl (fun _ => 0))), (aq24, .inl (ac26, 3, .inr (.inr (.inr (.inr (fun i => if i < 3 then some (ar25 i) else none)))))), ((ar25 0), .inl (cI, 40, .inl (fun _ => 0))), ((ar25 1), .inl (cI, 40, .inl (fun _ => 0))), ((ar25 2), .inl (cI, 40, .inl (fun _ => 0))), (aq28, .inl (cI, 7, .inl (fun _ => 0))), (aq29, .inl (cI, 7, .inl (fun _ => 0))), (aq30, .inl (cI, 6, .inl (fun _ => 0))), (aq27, .inl (cI, 3, .inl (gk_fl 3 (-1) (fun _ => 0)))), (gb, .inr (4, [.int 0, .ref bq1, .int 0, .long 0, .long 1, .ref bq2, .ref bq3, .ref bq4, .ref bq5, .ref bq6, .int 0, .ref bq7, .ref bq8, .ref bq9, .int 0, .ref bq10, .int 0, .ref bq11, .ref bq12, .ref bq13, .ref bq14, .ref bq15, .ref bq16, .ref bq17])), (bq1, .inl (cI, 6, .inl (fun _ => 0))), (bq2, .inl (cI, 6, .inl (upd (upd (upd (upd (upd (upd (fun _ => 0) (0 : Int32).toNatClampNeg (-1)) (1 : Int32).toNatClampNeg (-1)) (2 : Int32).toNatClampNeg (-1)) (3 : Int32).toNatClampNeg (-1)) (4 : Int32).toNatClampNeg (-1)) (5 : Int32).toNatClampNeg (-1)))), (bq3, .inl (cI, 240, .inl (fun _ => 0))), (bq4, .inl (cI, 4, .inl (upd (upd (upd (upd (fun _ => 0) (0 : Int32).toNatClampNeg (-1)) (1 : Int32).toNatClampNeg (-1)) (2 : Int32).toNatClampNeg (-1)) (3 : Int32).toNatClampNeg (-1)))), (bq5, .inl (cB, 240, .inl (fun _ => 0))), (bq6, .inl (cI, 40, .inl (fun _ => 0))), (bq7, .inl (cI, 14, .inl (fun _ => 0))), (bq8, .inl (cI, 14, .inl (fun _ => 0))), (bq9, .inl (cI, 14, .inl (fun _ => 0))), (bq10, .inl (cI, 410, .inl (upd (fun _ => 0) (8 : Int32).toNatClampNeg (-9)))), (bq11, .inl (cI, 1230, .inl (fun _ => 0))), (bq12, .inl (cI, 3, .inl (upd (upd (upd (fun _ => 0) (0 : Int32).toNatClampNeg (-1)) (1 : Int32).toNatClampNeg (-1)) (2 : Int32).toNatClampNeg (-1)))), (bq13, .inl (cI, 7, .inl (fun _ => 0))), (bq14, .inl (cI, 896, .inl (fun _ => 0))), (bq15, .inl (cI, 1024, .inl (fun _ => 0))), (bq16, .inl (cI, 7, .inl (fun _ => 0))), (bq17, .inl (cZ, 1024, .inl (fun _ => 0)))] H := hP
  have hD : va_D (fun q : Nat => s.heap.size ≤ q) [(ga, .inr (3, [.ref aq1, .ref aq6, .ref aq11, .ref aq18, .ref aq24, .ref aq27, .ref aq28, .ref aq29, .ref aq30, .int 0, .int 0, .long 0, .long 1])), (aq1, .inr (2, [.ref aq2, .ref aq4, .int 40])), (aq2, .inl (ac5, 6, .inr (.inr (.inr (.inr (fun i => if i < 6 then some (ar3 i) else none)))))), ((ar3 0), .inl (cI, 40, .inl (fun _ => 0))), ((ar3 1), .inl (cI, 40, .inl (fun _ => 0))), ((ar3 2), .inl (cI, 40, .inl (fun _ => 0))), ((ar3 3), .inl (cI, 40, .inl (fun _ => 0))), ((ar3 4), .inl (cI, 40, .inl (fun _ => 0))), ((ar3 5), .inl (cI, 40, .inl (fun _ => 0))), (aq4, .inl (cI, 6, .inl (gk_fl 6 (-1) (fun _ => 0)))), (aq6, .inr (2, [.ref aq7, .ref aq9, .int 60])), (aq7, .inl (ac10, 4, .inr (.inr (.inr (.inr (fun i => if i < 4 then some (ar8 i) else none)))))), ((ar8 0), .inl (cI, 60, .inl (fun _ => 0))), ((ar8 1), .inl (cI, 60, .inl (fun _ => 0))), ((ar8 2), .inl (cI, 60, .inl (fun _ => 0))), ((ar8 3), .inl (cI, 60, .inl (fun _ => 0))), (aq9, .inl (cI, 4, .inl (gk_fl 4 (-1) (fun _ => 0)))), (aq11, .inr (0, [.ref aq12, .ref aq13, .ref aq14, .ref aq15, .ref aq16, .ref aq17, .int 0, .int 0, .int 0, .int (-9), .int 0])), (aq12, .inl (cI, 7, .inl (fun _ => 0))), (aq13, .inl (cI, 7, .inl (fun _ => 0))), (aq14, .inl (cI, 7, .inl (fun _ => 0))), (aq15, .inl (cI, 7, .inl (fun _ => 0))), (aq16, .inl (cI, 6, .inl (fun _ => 0))), (aq17, .inl (cI, 40, .inl (fun _ => 0))), (aq18, .inr (1, [.ref aq19, .ref aq20, .ref aq21, .ref aq22, .ref aq23, .int 0, .int 0, .int 0])), (aq19, .inl (cI, 7, .inl (fun _ => 0))), (aq20, .inl (cI, 128, .inl (fun _ => 0))), (aq21, .inl (cI, 128, .inl (fun _ => 0))), (aq22, .inl (cI, 128, .inl (fun _ => 0))), (aq23, .inl (cI, 896, .inl (fun _ => 0))), (aq24, .inl (ac26, 3, .inr (.inr (.inr (.inr (fun i => if i < 3 then some (ar25 i) else none)))))), ((ar25 0), .inl (cI, 40, .inl (fun _ => 0))), ((ar25 1), .inl (cI, 40, .inl (fun _ => 0))), ((ar25 2), .inl (cI, 40, .inl (fun _ => 0))), (aq28, .inl (cI, 7, .inl (fun _ => 0))), (aq29, .inl (cI, 7, .inl (fun _ => 0))), (aq30, .inl (cI, 6, .inl (fun _ => 0))), (aq27, .inl (cI, 3, .inl (gk_fl 3 (-1) (fun _ => 0)))), (gb, .inr (4, [.int 0, .ref bq1, .int 0, .long 0, .long 1, .ref bq2, .ref bq3, .ref bq4, .ref bq5, .ref bq6, .int 0, .ref bq7, .ref bq8, .ref bq9, .int 0, .ref bq10, .int 0, .ref bq11, .ref bq12, .ref bq13, .ref bq14, .ref bq15, .ref bq16, .ref bq17])), (bq1, .inl (cI, 6, .inl (fun _ => 0))), (bq2, .inl (cI, 6, .inl (upd (upd (upd (upd (upd (upd (fun _ => 0) (0 : Int32).toNatClampNeg (-1)) (1 : Int32).toNatClampNeg (-1)) (2 : Int32).toNatClampNeg (-1)) (3 : Int32).toNatClampNeg (-1)) (4 : Int32).toNatClampNeg (-1)) (5 : Int32).toNatClampNeg (-1)))), (bq3, .inl (cI, 240, .inl (fun _ => 0))), (bq4, .inl (cI, 4, .inl (upd (upd (upd (upd (fun _ => 0) (0 : Int32).toNatClampNeg (-1)) (1 : Int32).toNatClampNeg (-1)) (2 : Int32).toNatClampNeg (-1)) (3 : Int32).toNatClampNeg (-1)))), (bq5, .inl (cB, 240, .inl (fun _ => 0))), (bq6, .inl (cI, 40, .inl (fun _ => 0))), (bq7, .inl (cI, 14, .inl (fun _ => 0))), (bq8, .inl (cI, 14, .inl (fun _ => 0))), (bq9, .inl (cI, 14, .inl (fun _ => 0))), (bq10, .inl (cI, 410, .inl (upd (fun _ => 0) (8 : Int32).toNatClampNeg (-9)))), (bq11, .inl (cI, 1230, .inl (fun _ => 0))), (bq12, .inl (cI, 3, .inl (upd (upd (upd (fun _ => 0) (0 : Int32).toNatClampNeg (-1)) (1 : Int32).toNatClampNeg (-1)) (2 : Int32).toNatClampNeg (-1)))), (bq13, .inl (cI, 7, .inl (fun _ => 0))), (bq14, .inl (cI, 896, .inl (fun _ => 0))), (bq15, .inl (cI, 1024, .inl (fun _ => 0))), (bq16, .inl (cI, 7, .inl (fun _ => 0))), (bq17, .inl (cZ, 1024, .inl (fun _ => 0)))] := hD
  refine lv_astore_n (lv' := [(2, .ref gb), (1, .ref ga), (0, .ref b)]) hx hb dL_law_15 rfl hl (by decide) rfl (fun ls hl => ?_)
  obtain rfl : ac5 = ac10 := gk_II.one hac5 hac10
  obtain rfl : ac5 = ac26 := gk_II.one hac5 hac26
  have hP := hP.sub (ws' := [(ga, .inr (3, [.ref aq1, .ref aq6, .ref aq11, .ref aq18, .ref aq24, .ref aq27, .ref aq28, .ref aq29, .ref aq30, .int 0, .int 0, .long 0, .long 1])), (aq1, .inr (2, [.ref aq2, .ref aq4, .int 40])), (aq2, .inl (ac5, 6, .inr (.inr (.inr (.inr (fun i => if i < 6 then some (ar3 i) else none)))))), (aq4, .inl (cI, 6, .inl (gk_fl 6 (-1) (fun _ => 0)))), (aq6, .inr (2, [.ref aq7, .ref aq9, .int 60])), (aq7, .inl (ac5, 4, .inr (.inr (.inr (.inr (fun i => if i < 4 then some (ar8 i) else none)))))), (aq9, .inl (cI, 4, .inl (gk_fl 4 (-1) (fun _ => 0)))), (aq11, .inr (0, [.ref aq12, .ref aq13, .ref aq14, .ref aq15, .ref aq16, .ref aq17, .int 0, .int 0, .int 0, .int (-9), .int 0])), (aq18, .inr (1, [.ref aq19, .ref aq20, .ref aq21, .ref aq22, .ref aq23, .int 0, .int 0, .int 0])), (aq24, .inl (ac5, 3, .inr (.inr (.inr (.inr (fun i => if i < 3 then some (ar25 i) else none)))))), ((ar3 0), .inl (cI, 40, .inl (fun _ => 0))), ((ar3 1), .inl (cI, 40, .inl (fun _ => 0))), ((ar3 2), .inl (cI, 40, .inl (fun _ => 0))), ((ar3 3), .inl (cI, 40, .inl (fun _ => 0))), ((ar3 4), .inl (cI, 40, .inl (fun _ => 0))), ((ar3 5), .inl (cI, 40, .inl (fun _ => 0))), ((ar8 0), .inl (cI, 60, .inl (fun _ => 0))), ((ar8 1), .inl (cI, 60, .inl (fun _ => 0))), ((ar8 2), .inl (cI, 60, .inl (fun _ => 0))), ((ar8 3), .inl (cI, 60, .inl (fun _ => 0))), ((ar25 0), .inl (cI, 40, .inl (fun _ => 0))), ((ar25 1), .inl (cI, 40, .inl (fun _ => 0))), ((ar25 2), .inl (cI, 40, .inl (fun _ => 0))), (aq27, .inl (cI, 3, .inl (gk_fl 3 (-1) (fun _ => 0)))), (aq28, .inl (cI, 7, .inl (fun _ => 0))), (aq29, .inl (cI, 7, .inl (fun _ => 0))), (aq30, .inl (cI, 6, .inl (fun _ => 0))), (aq12, .inl (cI, 7, .inl (fun _ => 0))), (aq13, .inl (cI, 7, .inl (fun _ => 0))), (aq14, .inl (cI, 7, .inl (fun _ => 0))), (aq15, .inl (cI, 7, .inl (fun _ => 0))), (aq16, .inl (cI, 6, .inl (fun _ => 0))), (aq17, .inl (cI, 40, .inl (fun _ => 0))), (aq19, .inl (cI, 7, .inl (fun _ => 0))), (aq20, .inl (cI, 128, .inl (fun _ => 0))), (aq21, .inl (cI, 128, .inl (fun _ => 0))), (aq22, .inl (cI, 128, .inl (fun _ => 0))), (aq23, .inl (cI, 896, .inl (fun _ => 0))), (gb, .inr (4, [.int 0, .ref bq1, .int 0, .long 0, .long 1, .ref bq2, .ref bq3, .ref bq4, .ref bq5, .ref bq6, .int 0, .ref bq7, .ref bq8, .ref bq9, .int 0, .ref bq10, .int 0, .ref bq11, .ref bq12, .ref bq13, .ref bq14, .ref bq15, .ref bq16, .ref bq17])), (bq1, .inl (cI, 6, .inl (fun _ => 0))), (bq2, .inl (cI, 6, .inl (upd (upd (upd (upd (upd (upd (fun _ => 0) (0 : Int32).toNatClampNeg (-1)) (1 : Int32).toNatClampNeg (-1)) (2 : Int32).toNatClampNeg (-1)) (3 : Int32).toNatClampNeg (-1)) (4 : Int32).toNatClampNeg (-1)) (5 : Int32).toNatClampNeg (-1)))), (bq3, .inl (cI, 240, .inl (fun _ => 0))), (bq4, .inl (cI, 4, .inl (upd (upd (upd (upd (fun _ => 0) (0 : Int32).toNatClampNeg (-1)) (1 : Int32).toNatClampNeg (-1)) (2 : Int32).toNatClampNeg (-1)) (3 : Int32).toNatClampNeg (-1)))), (bq5, .inl (cB, 240, .inl (fun _ => 0))), (bq6, .inl (cI, 40, .inl (fun _ => 0))), (bq7, .inl (cI, 14, .inl (fun _ => 0))), (bq8, .inl (cI, 14, .inl (fun _ => 0))), (bq9, .inl (cI, 14, .inl (fun _ => 0))), (bq10, .inl (cI, 410, .inl (upd (fun _ => 0) (8 : Int32).toNatClampNeg (-9)))), (bq11, .inl (cI, 1230, .inl (fun _ => 0))), (bq12, .inl (cI, 3, .inl (upd (upd (upd (fun _ => 0) (0 : Int32).toNatClampNeg (-1)) (1 : Int32).toNatClampNeg (-1)) (2 : Int32).toNatClampNeg (-1)))), (bq13, .inl (cI, 7, .inl (fun _ => 0))), (bq14, .inl (cI, 896, .inl (fun _ => 0))), (bq15, .inl (cI, 1024, .inl (fun _ => 0))), (bq16, .inl (cI, 7, .inl (fun _ => 0))), (bq17, .inl (cZ, 1024, .inl (fun _ => 0)))]) [0, 1, 2, 9, 10, 11, 16, 17, 24, 30, 3, 4, 5, 6, 7, 8, 12, 13, 14, 15, 31, 32, 33, 37, 34, 35, 36, 18, 19, 20, 21, 22, 23, 25, 26, 27, 28, 29, 38, 39, 40, 41, 42, 43, 44, 45, 46, 47, 48, 49, 50, 51, 52, 53, 54, 55] rfl
  have hD := hD.sub (ws' := [(ga, .inr (3, [.ref aq1, .ref aq6, .ref aq11, .ref aq18, .ref aq24, .ref aq27, .ref aq28, .ref aq29, .ref aq30, .int 0, .int 0, .long 0, .long 1])), (aq1, .inr (2, [.ref aq2, .ref aq4, .int 40])), (aq2, .inl (ac5, 6, .inr (.inr (.inr (.inr (fun i => if i < 6 then some (ar3 i) else none)))))), (aq4, .inl (cI, 6, .inl (gk_fl 6 (-1) (fun _ => 0)))), (aq6, .inr (2, [.ref aq7, .ref aq9, .int 60])), (aq7, .inl (ac5, 4, .inr (.inr (.inr (.inr (fun i => if i < 4 then some (ar8 i) else none)))))), (aq9, .inl (cI, 4, .inl (gk_fl 4 (-1) (fun _ => 0)))), (aq11, .inr (0, [.ref aq12, .ref aq13, .ref aq14, .ref aq15, .ref aq16, .ref aq17, .int 0, .int 0, .int 0, .int (-9), .int 0])), (aq18, .inr (1, [.ref aq19, .ref aq20, .ref aq21, .ref aq22, .ref aq23, .int 0, .int 0, .int 0])), (aq24, .inl (ac5, 3, .inr (.inr (.inr (.inr (fun i => if i < 3 then some (ar25 i) else none)))))), ((ar3 0), .inl (cI, 40, .inl (fun _ => 0))), ((ar3 1), .inl (cI, 40, .inl (fun _ => 0))), ((ar3 2), .inl (cI, 40, .inl (fun _ => 0))), ((ar3 3), .inl (cI, 40, .inl (fun _ => 0))), ((ar3 4), .inl (cI, 40, .inl (fun _ => 0))), ((ar3 5), .inl (cI, 40, .inl (fun _ => 0))), ((ar8 0), .inl (cI, 60, .inl (fun _ => 0))), ((ar8 1), .inl (cI, 60, .inl (fun _ => 0))), ((ar8 2), .inl (cI, 60, .inl (fun _ => 0))), ((ar8 3), .inl (cI, 60, .inl (fun _ => 0))), ((ar25 0), .inl (cI, 40, .inl (fun _ => 0))), ((ar25 1), .inl (cI, 40, .inl (fun _ => 0))), ((ar25 2), .inl (cI, 40, .inl (fun _ => 0))), (aq27, .inl (cI, 3, .inl (gk_fl 3 (-1) (fun _ => 0)))), (aq28, .inl (cI, 7, .inl (fun _ => 0))), (aq29, .inl (cI, 7, .inl (fun _ => 0))), (aq30, .inl (cI, 6, .inl (fun _ => 0))), (aq12, .inl (cI, 7, .inl (fun _ => 0))), (aq13, .inl (cI, 7, .inl (fun _ => 0))), (aq14, .inl (cI, 7, .inl (fun _ => 0))), (aq15, .inl (cI, 7, .inl (fun _ => 0))), (aq16, .inl (cI, 6, .inl (fun _ => 0))), (aq17, .inl (cI, 40, .inl (fun _ => 0))), (aq19, .inl (cI, 7, .inl (fun _ => 0))), (aq20, .inl (cI, 128, .inl (fun _ => 0))), (aq21, .inl (cI, 128, .inl (fun _ => 0))), (aq22, .inl (cI, 128, .inl (fun _ => 0))), (aq23, .inl (cI, 896, .inl (fun _ => 0))), (gb, .inr (4, [.int 0, .ref bq1, .int 0, .long 0, .long 1, .ref bq2, .ref bq3, .ref bq4, .ref bq5, .ref bq6, .int 0, .ref bq7, .ref bq8, .ref bq9, .int 0, .ref bq10, .int 0, .ref bq11, .ref bq12, .ref bq13, .ref bq14, .ref bq15, .ref bq16, .ref bq17])), (bq1, .inl (cI, 6, .inl (fun _ => 0))), (bq2, .inl (cI, 6, .inl (upd (upd (upd (upd (upd (upd (fun _ => 0) (0 : Int32).toNatClampNeg (-1)) (1 : Int32).toNatClampNeg (-1)) (2 : Int32).toNatClampNeg (-1)) (3 : Int32).toNatClampNeg (-1)) (4 : Int32).toNatClampNeg (-1)) (5 : Int32).toNatClampNeg (-1)))), (bq3, .inl (cI, 240, .inl (fun _ => 0))), (bq4, .inl (cI, 4, .inl (upd (upd (upd (upd (fun _ => 0) (0 : Int32).toNatClampNeg (-1)) (1 : Int32).toNatClampNeg (-1)) (2 : Int32).toNatClampNeg (-1)) (3 : Int32).toNatClampNeg (-1)))), (bq5, .inl (cB, 240, .inl (fun _ => 0))), (bq6, .inl (cI, 40, .inl (fun _ => 0))), (bq7, .inl (cI, 14, .inl (fun _ => 0))), (bq8, .inl (cI, 14, .inl (fun _ => 0))), (bq9, .inl (cI, 14, .inl (fun _ => 0))), (bq10, .inl (cI, 410, .inl (upd (fun _ => 0) (8 : Int32).toNatClampNeg (-9)))), (bq11, .inl (cI, 1230, .inl (fun _ => 0))), (bq12, .inl (cI, 3, .inl (upd (upd (upd (fun _ => 0) (0 : Int32).toNatClampNeg (-1)) (1 : Int32).toNatClampNeg (-1)) (2 : Int32).toNatClampNeg (-1)))), (bq13, .inl (cI, 7, .inl (fun _ => 0))), (bq14, .inl (cI, 896, .inl (fun _ => 0))), (bq15, .inl (cI, 1024, .inl (fun _ => 0))), (bq16, .inl (cI, 7, .inl (fun _ => 0))), (bq17, .inl (cZ, 1024, .inl (fun _ => 0)))]) [0, 1, 2, 9, 10, 11, 16, 17, 24, 30, 3, 4, 5, 6, 7, 8, 12, 13, 14, 15, 31, 32, 33, 37, 34, 35, 36, 18, 19, 20, 21, 22, 23, 25, 26, 27, 28, 29, 38, 39, 40, 41, 42, 43, 44, 45, 46, 47, 48, 49, 50, 51, 52, 53, 54, 55] (by decide) rfl
  obtain ⟨ad, had⟩ : ∃ ad : Nat → Nat, ad = gn_ad [ga, aq1, aq2, aq4, aq6, aq7, aq9, aq11, aq18, aq24, (ar3 0), (ar3 1), (ar3 2), (ar3 3), (ar3 4), (ar3 5), (ar8 0), (ar8 1), (ar8 2), (ar8 3), (ar25 0), (ar25 1), (ar25 2), aq27, aq28, aq29, aq30, aq12, aq13, aq14, aq15, aq16, aq17, aq19, aq20, aq21, aq22, aq23, gb, bq1, bq2, bq3, bq4, bq5, bq6, bq7, bq8, bq9, bq10, bq11, bq12, bq13, bq14, bq15, bq16, bq17] t b := ⟨_, rfl⟩
  obtain ⟨cy, hcy⟩ : ∃ cy : Nat → ClassId, cy = fun k => if k = 0 then cI else if k = 1 then cB else if k = 2 then cZ else ac5 := ⟨_, rfl⟩
  have hPW : va_P D vwCl (gn_W cy ad gn_0) H := by
    have key : ∀ (k : Nat) (c : gn_Sh), gn_S[k]? = some c → va_at D vwCl (ad k, gn_E cy ad gn_0 k c) H := by
      intro k c hc
      subst had
      subst hcy
      match k, hc with
      | 0, hc => obtain rfl := Option.some.inj hc; exact hP 0 _ rfl
      | 1, hc => obtain rfl := Option.some.inj hc; exact hP 1 _ rfl
      | 2, hc =>
      obtain rfl := Option.some.inj hc
      have e9 := gn_rows6 (gn_ad [ga, aq1, aq2, aq4, aq6, aq7, aq9, aq11, aq18, aq24, (ar3 0), (ar3 1), (ar3 2), (ar3 3), (ar3 4), (ar3 5), (ar8 0), (ar8 1), (ar8 2), (ar8 3), (ar25 0), (ar25 1), (ar25 2), aq27, aq28, aq29, aq30, aq12, aq13, aq14, aq15, aq16, aq17, aq19, aq20, aq21, aq22, aq23, gb, bq1, bq2, bq3, bq4, bq5, bq6, bq7, bq8, bq9, bq10, bq11, bq12, bq13, bq14, bq15, bq16, bq17] t b) ar3 10 6 [10, 11, 12, 13, 14, 15] rfl (fun i hi => by rcases (show i = 0 ∨ i = 1 ∨ i = 2 ∨ i = 3 ∨ i = 4 ∨ i = 5 by omega) with rfl | rfl | rfl | rfl | rfl | rfl <;> rfl) (fun i hi => by rcases (show i = 0 ∨ i = 1 ∨ i = 2 ∨ i = 3 ∨ i = 4 ∨ i = 5 by omega) with rfl | rfl | rfl | rfl | rfl | rfl <;> rfl)
      have h9 := hP 2 _ rfl
      rw [← e9] at h9
      exact h9
      | 3, hc => obtain rfl := Option.some.inj hc; exact hP 3 _ rfl
      | 4, hc => obtain rfl := Option.some.inj hc; exact hP 4 _ rfl
      | 5, hc =>
      obtain rfl := Option.some.inj hc
      have e9 := gn_rows6 (gn_ad [ga, aq1, aq2, aq4, aq6, aq7, aq9, aq11, aq18, aq24, (ar3 0), (ar3 1), (ar3 2), (ar3 3), (ar3 4), (ar3 5), (ar8 0), (ar8 1), (ar8 2), (ar8 3), (ar25 0), (ar25 1), (ar25 2), aq27, aq28, aq29, aq30, aq12, aq13, aq14, aq15, aq16, aq17, aq19, aq20, aq21, aq22, aq23, gb, bq1, bq2, bq3, bq4, bq5, bq6, bq7, bq8, bq9, bq10, bq11, bq12, bq13, bq14, bq15, bq16, bq17] t b) ar8 16 4 [16, 17, 18, 19] rfl (fun i hi => by rcases (show i = 0 ∨ i = 1 ∨ i = 2 ∨ i = 3 by omega) with rfl | rfl | rfl | rfl <;> rfl) (fun i hi => by rcases (show i = 0 ∨ i = 1 ∨ i = 2 ∨ i = 3 by omega) with rfl | rfl | rfl | rfl <;> rfl)
      have h9 := hP 5 _ rfl
      rw [← e9] at h9
      exact h9
      | 6, hc => obtain rfl := Option.some.inj hc; exact hP 6 _ rfl
      | 7, hc => obtain rfl := Option.some.inj hc; exact hP 7 _ rfl
      | 8, hc => obtain rfl := Option.some.inj hc; exact hP 8 _ rfl
      | 9, hc =>
      obtain rfl := Option.some.inj hc
      have e9 := gn_rows6 (gn_ad [ga, aq1, aq2, aq4, aq6, aq7, aq9, aq11, aq18, aq24, (ar3 0), (ar3 1), (ar3 2), (ar3 3), (ar3 4), (ar3 5), (ar8 0), (ar8 1), (ar8 2), (ar8 3), (ar25 0), (ar25 1), (ar25 2), aq27, aq28, aq29, aq30, aq12, aq13, aq14, aq15, aq16, aq17, aq19, aq20, aq21, aq22, aq23, gb, bq1, bq2, bq3, bq4, bq5, bq6, bq7, bq8, bq9, bq10, bq11, bq12, bq13, bq14, bq15, bq16, bq17] t b) ar25 20 3 [20, 21, 22] rfl (fun i hi => by rcases (show i = 0 ∨ i = 1 ∨ i = 2 by omega) with rfl | rfl | rfl <;> rfl) (fun i hi => by rcases (show i = 0 ∨ i = 1 ∨ i = 2 by omega) with rfl | rfl | rfl <;> rfl)
      have h9 := hP 9 _ rfl
      rw [← e9] at h9
      exact h9
      | 10, hc => obtain rfl := Option.some.inj hc; exact hP 10 _ rfl
      | 11, hc => obtain rfl := Option.some.inj hc; exact hP 11 _ rfl
      | 12, hc => obtain rfl := Option.some.inj hc; exact hP 12 _ rfl
      | 13, hc => obtain rfl := Option.some.inj hc; exact hP 13 _ rfl
      | 14, hc => obtain rfl := Option.some.inj hc; exact hP 14 _ rfl
      | 15, hc => obtain rfl := Option.some.inj hc; exact hP 15 _ rfl
      | 16, hc => obtain rfl := Option.some.inj hc; exact hP 16 _ rfl
      | 17, hc => obtain rfl := Option.some.inj hc; exact hP 17 _ rfl
      | 18, hc => obtain rfl := Option.some.inj hc; exact hP 18 _ rfl
      | 19, hc => obtain rfl := Option.some.inj hc; exact hP 19 _ rfl
      | 20, hc => obtain rfl := Option.some.inj hc; exact hP 20 _ rfl
      | 21, hc => obtain rfl := Option.some.inj hc; exact hP 21 _ rfl
      | 22, hc => obtain rfl := Option.some.inj hc; exact hP 22 _ rfl
      | 23, hc => obtain rfl := Option.some.inj hc; exact hP 23 _ rfl
      | 24, hc => obtain rfl := Option.some.inj hc; exact hP 24 _ rfl
      | 25, hc => obtain rfl := Option.some.inj hc; exact hP 25 _ rfl
      | 26, hc => obtain rfl := Option.some.inj hc; exact hP 26 _ rfl
      | 27, hc => obtain rfl := Option.some.inj hc; exact hP 27 _ rfl
      | 28, hc => obtain rfl := Option.some.inj hc; exact hP 28 _ rfl
      | 29, hc => obtain rfl := Option.some.inj hc; exact hP 29 _ rfl
      | 30, hc => obtain rfl := Option.some.inj hc; exact hP 30 _ rfl
      | 31, hc => obtain rfl := Option.some.inj hc; exact hP 31 _ rfl
      | 32, hc => obtain rfl := Option.some.inj hc; exact hP 32 _ rfl
      | 33, hc => obtain rfl := Option.some.inj hc; exact hP 33 _ rfl
      | 34, hc => obtain rfl := Option.some.inj hc; exact hP 34 _ rfl
      | 35, hc => obtain rfl := Option.some.inj hc; exact hP 35 _ rfl
      | 36, hc => obtain rfl := Option.some.inj hc; exact hP 36 _ rfl
      | 37, hc => obtain rfl := Option.some.inj hc; exact hP 37 _ rfl
      | 38, hc => obtain rfl := Option.some.inj hc; exact hP 38 _ rfl
      | 39, hc => obtain rfl := Option.some.inj hc; exact hP 39 _ rfl
      | 40, hc => obtain rfl := Option.some.inj hc; exact hP 40 _ rfl
      | 41, hc => obtain rfl := Option.some.inj hc; exact hP 41 _ rfl
      | 42, hc => obtain rfl := Option.some.inj hc; exact hP 42 _ rfl
      | 43, hc => obtain rfl := Option.some.inj hc; exact hP 43 _ rfl
      | 44, hc => obtain rfl := Option.some.inj hc; exact hP 44 _ rfl
      | 45, hc => obtain rfl := Option.some.inj hc; exact hP 45 _ rfl
      | 46, hc => obtain rfl := Option.some.inj hc; exact hP 46 _ rfl
      | 47, hc => obtain rfl := Option.some.inj hc; exact hP 47 _ rfl
      | 48, hc => obtain rfl := Option.some.inj hc; exact hP 48 _ rfl
      | 49, hc => obtain rfl := Option.some.inj hc; exact hP 49 _ rfl
      | 50, hc => obtain rfl := Option.some.inj hc; exact hP 50 _ rfl
      | 51, hc => obtain rfl := Option.some.inj hc; exact hP 51 _ rfl
      | 52, hc => obtain rfl := Option.some.inj hc; exact hP 52 _ rfl
      | 53, hc => obtain rfl := Option.some.inj hc; exact hP 53 _ rfl
      | 54, hc => obtain rfl := Option.some.inj hc; exact hP 54 _ rfl
      | 55, hc => obtain rfl := Option.some.inj hc; exact hP 55 _ rfl
      | k + 56, hc => exact absurd (gn_lt hc) (by omega)
    intro k q hq
    rw [gn_W, List.getElem?_mapIdx] at hq
    cases hk : gn_S[k]? with
    | none => rw [hk] at hq; cases hq
    | some c => rw [hk] at hq; cases hq; exact key k c hk
  have hfst : ([(ga, .inr (3, [.ref aq1, .ref aq6, .ref aq11, .ref aq18, .ref aq24, .ref aq27, .ref aq28, .ref aq29, .ref aq30, .int 0, .int 0, .long 0, .long 1])), (aq1, .inr (2, [.ref aq2, .ref aq4, .int 40])), (aq2, .inl (ac5, 6, .inr (.inr (.inr (.inr (fun i => if i < 6 then some (ar3 i) else none)))))), (aq4, .inl (cI, 6, .inl (gk_fl 6 (-1) (fun _ => 0)))), (aq6, .inr (2, [.ref aq7, .ref aq9, .int 60])), (aq7, .inl (ac5, 4, .inr (.inr (.inr (.inr (fun i => if i < 4 then some (ar8 i) else none)))))), (aq9, .inl (cI, 4, .inl (gk_fl 4 (-1) (fun _ => 0)))), (aq11, .inr (0, [.ref aq12, .ref aq13, .ref aq14, .ref aq15, .ref aq16, .ref aq17, .int 0, .int 0, .int 0, .int (-9), .int 0])), (aq18, .inr (1, [.ref aq19, .ref aq20, .ref aq21, .ref aq22, .ref aq23, .int 0, .int 0, .int 0])), (aq24, .inl (ac5, 3, .inr (.inr (.inr (.inr (fun i => if i < 3 then some (ar25 i) else none)))))), ((ar3 0), .inl (cI, 40, .inl (fun _ => 0))), ((ar3 1), .inl (cI, 40, .inl (fun _ => 0))), ((ar3 2), .inl (cI, 40, .inl (fun _ => 0))), ((ar3 3), .inl (cI, 40, .inl (fun _ => 0))), ((ar3 4), .inl (cI, 40, .inl (fun _ => 0))), ((ar3 5), .inl (cI, 40, .inl (fun _ => 0))), ((ar8 0), .inl (cI, 60, .inl (fun _ => 0))), ((ar8 1), .inl (cI, 60, .inl (fun _ => 0))), ((ar8 2), .inl (cI, 60, .inl (fun _ => 0))), ((ar8 3), .inl (cI, 60, .inl (fun _ => 0))), ((ar25 0), .inl (cI, 40, .inl (fun _ => 0))), ((ar25 1), .inl (cI, 40, .inl (fun _ => 0))), ((ar25 2), .inl (cI, 40, .inl (fun _ => 0))), (aq27, .inl (cI, 3, .inl (gk_fl 3 (-1) (fun _ => 0)))), (aq28, .inl (cI, 7, .inl (fun _ => 0))), (aq29, .inl (cI, 7, .inl (fun _ => 0))), (aq30, .inl (cI, 6, .inl (fun _ => 0))), (aq12, .inl (cI, 7, .inl (fun _ => 0))), (aq13, .inl (cI, 7, .inl (fun _ => 0))), (aq14, .inl (cI, 7, .inl (fun _ => 0))), (aq15, .inl (cI, 7, .inl (fun _ => 0))), (aq16, .inl (cI, 6, .inl (fun _ => 0))), (aq17, .inl (cI, 40, .inl (fun _ => 0))), (aq19, .inl (cI, 7, .inl (fun _ => 0))), (aq20, .inl (cI, 128, .inl (fun _ => 0))), (aq21, .inl (cI, 128, .inl (fun _ => 0))), (aq22, .inl (cI, 128, .inl (fun _ => 0))), (aq23, .inl (cI, 896, .inl (fun _ => 0))), (gb, .inr (4, [.int 0, .ref bq1, .int 0, .long 0, .long 1, .ref bq2, .ref bq3, .ref bq4, .ref bq5, .ref bq6, .int 0, .ref bq7, .ref bq8, .ref bq9, .int 0, .ref bq10, .int 0, .ref bq11, .ref bq12, .ref bq13, .ref bq14, .ref bq15, .ref bq16, .ref bq17])), (bq1, .inl (cI, 6, .inl (fun _ => 0))), (bq2, .inl (cI, 6, .inl (upd (upd (upd (upd (upd (upd (fun _ => 0) (0 : Int32).toNatClampNeg (-1)) (1 : Int32).toNatClampNeg (-1)) (2 : Int32).toNatClampNeg (-1)) (3 : Int32).toNatClampNeg (-1)) (4 : Int32).toNatClampNeg (-1)) (5 : Int32).toNatClampNeg (-1)))), (bq3, .inl (cI, 240, .inl (fun _ => 0))), (bq4, .inl (cI, 4, .inl (upd (upd (upd (upd (fun _ => 0) (0 : Int32).toNatClampNeg (-1)) (1 : Int32).toNatClampNeg (-1)) (2 : Int32).toNatClampNeg (-1)) (3 : Int32).toNatClampNeg (-1)))), (bq5, .inl (cB, 240, .inl (fun _ => 0))), (bq6, .inl (cI, 40, .inl (fun _ => 0))), (bq7, .inl (cI, 14, .inl (fun _ => 0))), (bq8, .inl (cI, 14, .inl (fun _ => 0))), (bq9, .inl (cI, 14, .inl (fun _ => 0))), (bq10, .inl (cI, 410, .inl (upd (fun _ => 0) (8 : Int32).toNatClampNeg (-9)))), (bq11, .inl (cI, 1230, .inl (fun _ => 0))), (bq12, .inl (cI, 3, .inl (upd (upd (upd (fun _ => 0) (0 : Int32).toNatClampNeg (-1)) (1 : Int32).toNatClampNeg (-1)) (2 : Int32).toNatClampNeg (-1)))), (bq13, .inl (cI, 7, .inl (fun _ => 0))), (bq14, .inl (cI, 896, .inl (fun _ => 0))), (bq15, .inl (cI, 1024, .inl (fun _ => 0))), (bq16, .inl (cI, 7, .inl (fun _ => 0))), (bq17, .inl (cZ, 1024, .inl (fun _ => 0)))] : va_W).map (fun q => q.1) = [ga, aq1, aq2, aq4, aq6, aq7, aq9, aq11, aq18, aq24, (ar3 0), (ar3 1), (ar3 2), (ar3 3), (ar3 4), (ar3 5), (ar8 0), (ar8 1), (ar8 2), (ar8 3), (ar25 0), (ar25 1), (ar25 2), aq27, aq28, aq29, aq30, aq12, aq13, aq14, aq15, aq16, aq17, aq19, aq20, aq21, aq22, aq23, gb, bq1, bq2, bq3, bq4, bq5, bq6, bq7, bq8, bq9, bq10, bq11, bq12, bq13, bq14, bq15, bq16, bq17] := rfl
  have hge : ∀ k : Nat, k < gn_n → s.heap.size ≤ ad k := by
    intro k hk
    subst had
    match k, hk with
    | 0, _ => exact hD.2 0 _ rfl
    | 1, _ => exact hD.2 1 _ rfl
    | 2, _ => exact hD.2 2 _ rfl
    | 3, _ => exact hD.2 3 _ rfl
    | 4, _ => exact hD.2 4 _ rfl
    | 5, _ => exact hD.2 5 _ rfl
    | 6, _ => exact hD.2 6 _ rfl
    | 7, _ => exact hD.2 7 _ rfl
    | 8, _ => exact hD.2 8 _ rfl
    | 9, _ => exact hD.2 9 _ rfl
    | 10, _ => exact hD.2 10 _ rfl
    | 11, _ => exact hD.2 11 _ rfl
    | 12, _ => exact hD.2 12 _ rfl
    | 13, _ => exact hD.2 13 _ rfl
    | 14, _ => exact hD.2 14 _ rfl
    | 15, _ => exact hD.2 15 _ rfl
    | 16, _ => exact hD.2 16 _ rfl
    | 17, _ => exact hD.2 17 _ rfl
    | 18, _ => exact hD.2 18 _ rfl
    | 19, _ => exact hD.2 19 _ rfl
    | 20, _ => exact hD.2 20 _ rfl
    | 21, _ => exact hD.2 21 _ rfl
    | 22, _ => exact hD.2 22 _ rfl
    | 23, _ => exact hD.2 23 _ rfl
    | 24, _ => exact hD.2 24 _ rfl
    | 25, _ => exact hD.2 25 _ rfl
    | 26, _ => exact hD.2 26 _ rfl
    | 27, _ => exact hD.2 27 _ rfl
    | 28, _ => exact hD.2 28 _ rfl
    | 29, _ => exact hD.2 29 _ rfl
    | 30, _ => exact hD.2 30 _ rfl
    | 31, _ => exact hD.2 31 _ rfl
    | 32, _ => exact hD.2 32 _ rfl
    | 33, _ => exact hD.2 33 _ rfl
    | 34, _ => exact hD.2 34 _ rfl
    | 35, _ => exact hD.2 35 _ rfl
    | 36, _ => exact hD.2 36 _ rfl
    | 37, _ => exact hD.2 37 _ rfl
    | 38, _ => exact hD.2 38 _ rfl
    | 39, _ => exact hD.2 39 _ rfl
    | 40, _ => exact hD.2 40 _ rfl
    | 41, _ => exact hD.2 41 _ rfl
    | 42, _ => exact hD.2 42 _ rfl
    | 43, _ => exact hD.2 43 _ rfl
    | 44, _ => exact hD.2 44 _ rfl
    | 45, _ => exact hD.2 45 _ rfl
    | 46, _ => exact hD.2 46 _ rfl
    | 47, _ => exact hD.2 47 _ rfl
    | 48, _ => exact hD.2 48 _ rfl
    | 49, _ => exact hD.2 49 _ rfl
    | 50, _ => exact hD.2 50 _ rfl
    | 51, _ => exact hD.2 51 _ rfl
    | 52, _ => exact hD.2 52 _ rfl
    | 53, _ => exact hD.2 53 _ rfl
    | 54, _ => exact hD.2 54 _ rfl
    | 55, _ => exact hD.2 55 _ rfl
    | k + 56, hk => exact absurd hk (by omega)
  have hap : gn_ap ad := by
    intro i j hi hj e
    have at_ : ∀ k : Nat, k < gn_n → ∃ q : Nat × va_E, ([(ga, .inr (3, [.ref aq1, .ref aq6, .ref aq11, .ref aq18, .ref aq24, .ref aq27, .ref aq28, .ref aq29, .ref aq30, .int 0, .int 0, .long 0, .long 1])), (aq1, .inr (2, [.ref aq2, .ref aq4, .int 40])), (aq2, .inl (ac5, 6, .inr (.inr (.inr (.inr (fun i => if i < 6 then some (ar3 i) else none)))))), (aq4, .inl (cI, 6, .inl (gk_fl 6 (-1) (fun _ => 0)))), (aq6, .inr (2, [.ref aq7, .ref aq9, .int 60])), (aq7, .inl (ac5, 4, .inr (.inr (.inr (.inr (fun i => if i < 4 then some (ar8 i) else none)))))), (aq9, .inl (cI, 4, .inl (gk_fl 4 (-1) (fun _ => 0)))), (aq11, .inr (0, [.ref aq12, .ref aq13, .ref aq14, .ref aq15, .ref aq16, .ref aq17, .int 0, .int 0, .int 0, .int (-9), .int 0])), (aq18, .inr (1, [.ref aq19, .ref aq20, .ref aq21, .ref aq22, .ref aq23, .int 0, .int 0, .int 0])), (aq24, .inl (ac5, 3, .inr (.inr (.inr (.inr (fun i => if i < 3 then some (ar25 i) else none)))))), ((ar3 0), .inl (cI, 40, .inl (fun _ => 0))), ((ar3 1), .inl (cI, 40, .inl (fun _ => 0))), ((ar3 2), .inl (cI, 40, .inl (fun _ => 0))), ((ar3 3), .inl (cI, 40, .inl (fun _ => 0))), ((ar3 4), .inl (cI, 40, .inl (fun _ => 0))), ((ar3 5), .inl (cI, 40, .inl (fun _ => 0))), ((ar8 0), .inl (cI, 60, .inl (fun _ => 0))), ((ar8 1), .inl (cI, 60, .inl (fun _ => 0))), ((ar8 2), .inl (cI, 60, .inl (fun _ => 0))), ((ar8 3), .inl (cI, 60, .inl (fun _ => 0))), ((ar25 0), .inl (cI, 40, .inl (fun _ => 0))), ((ar25 1), .inl (cI, 40, .inl (fun _ => 0))), ((ar25 2), .inl (cI, 40, .inl (fun _ => 0))), (aq27, .inl (cI, 3, .inl (gk_fl 3 (-1) (fun _ => 0)))), (aq28, .inl (cI, 7, .inl (fun _ => 0))), (aq29, .inl (cI, 7, .inl (fun _ => 0))), (aq30, .inl (cI, 6, .inl (fun _ => 0))), (aq12, .inl (cI, 7, .inl (fun _ => 0))), (aq13, .inl (cI, 7, .inl (fun _ => 0))), (aq14, .inl (cI, 7, .inl (fun _ => 0))), (aq15, .inl (cI, 7, .inl (fun _ => 0))), (aq16, .inl (cI, 6, .inl (fun _ => 0))), (aq17, .inl (cI, 40, .inl (fun _ => 0))), (aq19, .inl (cI, 7, .inl (fun _ => 0))), (aq20, .inl (cI, 128, .inl (fun _ => 0))), (aq21, .inl (cI, 128, .inl (fun _ => 0))), (aq22, .inl (cI, 128, .inl (fun _ => 0))), (aq23, .inl (cI, 896, .inl (fun _ => 0))), (gb, .inr (4, [.int 0, .ref bq1, .int 0, .long 0, .long 1, .ref bq2, .ref bq3, .ref bq4, .ref bq5, .ref bq6, .int 0, .ref bq7, .ref bq8, .ref bq9, .int 0, .ref bq10, .int 0, .ref bq11, .ref bq12, .ref bq13, .ref bq14, .ref bq15, .ref bq16, .ref bq17])), (bq1, .inl (cI, 6, .inl (fun _ => 0))), (bq2, .inl (cI, 6, .inl (upd (upd (upd (upd (upd (upd (fun _ => 0) (0 : Int32).toNatClampNeg (-1)) (1 : Int32).toNatClampNeg (-1)) (2 : Int32).toNatClampNeg (-1)) (3 : Int32).toNatClampNeg (-1)) (4 : Int32).toNatClampNeg (-1)) (5 : Int32).toNatClampNeg (-1)))), (bq3, .inl (cI, 240, .inl (fun _ => 0))), (bq4, .inl (cI, 4, .inl (upd (upd (upd (upd (fun _ => 0) (0 : Int32).toNatClampNeg (-1)) (1 : Int32).toNatClampNeg (-1)) (2 : Int32).toNatClampNeg (-1)) (3 : Int32).toNatClampNeg (-1)))), (bq5, .inl (cB, 240, .inl (fun _ => 0))), (bq6, .inl (cI, 40, .inl (fun _ => 0))), (bq7, .inl (cI, 14, .inl (fun _ => 0))), (bq8, .inl (cI, 14, .inl (fun _ => 0))), (bq9, .inl (cI, 14, .inl (fun _ => 0))), (bq10, .inl (cI, 410, .inl (upd (fun _ => 0) (8 : Int32).toNatClampNeg (-9)))), (bq11, .inl (cI, 1230, .inl (fun _ => 0))), (bq12, .inl (cI, 3, .inl (upd (upd (upd (fun _ => 0) (0 : Int32).toNatClampNeg (-1)) (1 : Int32).toNatClampNeg (-1)) (2 : Int32).toNatClampNeg (-1)))), (bq13, .inl (cI, 7, .inl (fun _ => 0))), (bq14, .inl (cI, 896, .inl (fun _ => 0))), (bq15, .inl (cI, 1024, .inl (fun _ => 0))), (bq16, .inl (cI, 7, .inl (fun _ => 0))), (bq17, .inl (cZ, 1024, .inl (fun _ => 0)))] : va_W)[k]? = some q ∧ q.1 = ad k := by
      intro k hk
      subst had
      match k, hk with
      | 0, _ => exact ⟨_, rfl, rfl⟩
      | 1, _ => exact ⟨_, rfl, rfl⟩
      | 2, _ => exact ⟨_, rfl, rfl⟩
      | 3, _ => exact ⟨_, rfl, rfl⟩
      | 4, _ => exact ⟨_, rfl, rfl⟩
      | 5, _ => exact ⟨_, rfl, rfl⟩
      | 6, _ => exact ⟨_, rfl, rfl⟩
      | 7, _ => exact ⟨_, rfl, rfl⟩
      | 8, _ => exact ⟨_, rfl, rfl⟩
      | 9, _ => exact ⟨_, rfl, rfl⟩
      | 10, _ => exact ⟨_, rfl, rfl⟩
      | 11, _ => exact ⟨_, rfl, rfl⟩
      | 12, _ => exact ⟨_, rfl, rfl⟩
      | 13, _ => exact ⟨_, rfl, rfl⟩
      | 14, _ => exact ⟨_, rfl, rfl⟩
      | 15, _ => exact ⟨_, rfl, rfl⟩
      | 16, _ => exact ⟨_, rfl, rfl⟩
      | 17, _ => exact ⟨_, rfl, rfl⟩
      | 18, _ => exact ⟨_, rfl, rfl⟩
      | 19, _ => exact ⟨_, rfl, rfl⟩
      | 20, _ => exact ⟨_, rfl, rfl⟩
      | 21, _ => exact ⟨_, rfl, rfl⟩
      | 22, _ => exact ⟨_, rfl, rfl⟩
      | 23, _ => exact ⟨_, rfl, rfl⟩
      | 24, _ => exact ⟨_, rfl, rfl⟩
      | 25, _ => exact ⟨_, rfl, rfl⟩
      | 26, _ => exact ⟨_, rfl, rfl⟩
      | 27, _ => exact ⟨_, rfl, rfl⟩
      | 28, _ => exact ⟨_, rfl, rfl⟩
      | 29, _ => exact ⟨_, rfl, rfl⟩
      | 30, _ => exact ⟨_, rfl, rfl⟩
      | 31, _ => exact ⟨_, rfl, rfl⟩
      | 32, _ => exact ⟨_, rfl, rfl⟩
      | 33, _ => exact ⟨_, rfl, rfl⟩
      | 34, _ => exact ⟨_, rfl, rfl⟩
      | 35, _ => exact ⟨_, rfl, rfl⟩
      | 36, _ => exact ⟨_, rfl, rfl⟩
      | 37, _ => exact ⟨_, rfl, rfl⟩
      | 38, _ => exact ⟨_, rfl, rfl⟩
      | 39, _ => exact ⟨_, rfl, rfl⟩
      | 40, _ => exact ⟨_, rfl, rfl⟩
      | 41, _ => exact ⟨_, rfl, rfl⟩
      | 42, _ => exact ⟨_, rfl, rfl⟩
      | 43, _ => exact ⟨_, rfl, rfl⟩
      | 44, _ => exact ⟨_, rfl, rfl⟩
      | 45, _ => exact ⟨_, rfl, rfl⟩
      | 46, _ => exact ⟨_, rfl, rfl⟩
      | 47, _ => exact ⟨_, rfl, rfl⟩
      | 48, _ => exact ⟨_, rfl, rfl⟩
      | 49, _ => exact ⟨_, rfl, rfl⟩
      | 50, _ => exact ⟨_, rfl, rfl⟩
      | 51, _ => exact ⟨_, rfl, rfl⟩
      | 52, _ => exact ⟨_, rfl, rfl⟩
      | 53, _ => exact ⟨_, rfl, rfl⟩
      | 54, _ => exact ⟨_, rfl, rfl⟩
      | 55, _ => exact ⟨_, rfl, rfl⟩
      | k + 56, hk => exact absurd hk (by omega)
    obtain ⟨p1, g1, e1⟩ := at_ i hi
    obtain ⟨p2, g2, e2⟩ := at_ j hj
    exact hD.1 i j p1 p2 g1 g2 (e1.trans (e.trans e2.symm))
  have hnA : ∀ q : Nat, q < s.heap.size → ¬ gn_A ad q := fun q hq h => by
    obtain ⟨k, hk, e⟩ := h
    have := hge k hk
    omega
  have hsub : ∀ q, gn_A ad q → s.heap.size ≤ q := fun q h => by
    obtain ⟨k, hk, e⟩ := h
    rw [e]
    exact hge k hk
  have ht100 : ad 100 = t := by rw [had]; rfl
  have ht101 : ad 101 = b := by rw [had]; rfl
  have hcy0 : cy 0 = cI := by rw [hcy]; rfl
  have hcy1 : cy 1 = cB := by rw [hcy]; rfl
  have hcy2 : cy 2 = cZ := by rw [hcy]; rfl
  have hcy3 : cy 3 = ac5 := by rw [hcy]; rfl
  have hKall : va_K D vwCl (gn_tys cy) s := ⟨hK.1, fun k q h => by
    rw [gn_tys, hcy0, hcy1, hcy2, hcy3] at h
    match k, h with
    | 0, h => cases h; exact hI
    | 1, h => cases h; exact hBy
    | 2, h => cases h; exact hZb
    | 3, h => cases h; exact hac5.2 0 _ rfl⟩
  have hVV : gn_V (some (L, xs)) D cy ad s := ⟨hNw, hKall, by rw [ht100]; exact hZ0.narrow hsub, by rw [ht100]; exact hT0.narrow hsub, hap, by
    show va_X (ad 101) L xs s s.heap ∧ ad 101 < s.heap.size ∧ ¬ gn_A ad (ad 101)
    rw [ht101]
    exact ⟨hX, hbl, hnA b hbl⟩⟩
  refine va_forget (fun q hq => hS.2.2 q hq) ?_
  have hSS : va_S (gn_A ad) s.heap H [] := ⟨hS.1, fun q h1 _ => hS.2.1 q h1 (Nat.not_le.mpr h1), fun q hq => by cases hq⟩
  obtain ⟨n, v, hv, hv1⟩ := HP
  have hgo := c_law hv
  have hLL : gn_L ls 4 ad [some (.ref 101), some (.ref 0), some (.ref 38), none] := ⟨hl.1, hl.2.1, fun i w hi => by
    match i, hi with
    | 0, hi => cases hi; show ls[0]? = some (.val (.ref (ad 101))); rw [ht101]; exact lv_at hl 2 rfl
    | 1, hi => cases hi; have e0 : ad 0 = ga := by rw [had]; rfl
               show ls[1]? = some (.val (.ref (ad 0))); rw [e0]; exact lv_at hl 1 rfl
    | 2, hi => cases hi; have e0 : ad 38 = gb := by rw [had]; rfl
               show ls[2]? = some (.val (.ref (ad 38))); rw [e0]; exact lv_at hl 0 rfl
    | 3, hi => cases hi
    | i + 4, hi => simp at hi⟩
  rw [hv1] at hgo
  refine hgo.2 p l e room_1 s m _ below meth c _ _ _ D cy ad H [] ls ⟨hx, hb, hml, hown, hts, Nat.le_of_ble_eq_true rfl, Nat.le_of_ble_eq_true rfl, Nat.le_of_ble_eq_true rfl, Nat.le_of_ble_eq_true rfl⟩ hVV hPW hSS hLL (fun pc' H' locs' ls' hret hP' hS' => ?_)
  refine va_forget (fun q hq => hsub _ (hS'.2.2 q hq)) ?_
  refine W.widen (k := 600000) (n := 7302250) (Nat.le_of_ble_eq_true rfl) (Nat.le_of_ble_eq_true rfl) ?_
  exact lw_ret hx hb hr hlocks hret
