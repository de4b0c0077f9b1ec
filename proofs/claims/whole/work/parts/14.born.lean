/-! THE CONSTRUCTORS, over worlds that grow: what stands all the while, arrays of two dimensions, Arrays.fill -/
/-- the word of arrays of arrays of ints, which is one of the tables' state -/
def gk_AO (U : State) : Prop := (Cond.arrayOver (.array .int)).before #[] U = true
theorem gk_AO.moved {u U : State} (hvm : u.vm.Alike U.vm) (h : gk_AO u) : gk_AO U := by
  obtain ⟨comp, c, k, h1, h2, h3, h4, h5⟩ := arrayOverA_spec h
  obtain ⟨k', hk', he⟩ := hvm.2.2 _ _ h3
  have q1 := va_idx_bare U.vm comp
  have q2 := va_idx_bare u.vm comp
  have e : U.vm.bare = u.vm.bare := by first | exact hvm.bare_eq | exact hvm.bare_eq.symm
  rw [e] at q1
  have hi := q1.symm.trans (q2.trans h2)
  have hkind : k'.kind = .array comp (.array .int) := by rw [he]; exact h4
  have f1 : U.vm.findClass (FieldType.array .int).toString = some comp := by rw [hvm.findClass]; exact h1
  have f2 : U.vm.findClass ("[" ++ (FieldType.array .int).toString) = some c := by rw [hvm.findClass]; exact h5
  unfold gk_AO Cond.before Cond.holds
  simp only [Cond.value]
  rw [f1, Option.bind_some]
  refine (congrArg (fun o : Option Nat => (o.bind (fun c => (U.vm.classes[c]?).map fun (k : Class) => match k.kind with | .array _ ty => decide (ty = FieldType.array .int) && decide (U.vm.findClass ("[" ++ (FieldType.array .int).toString) = some c) | _ => false) == some true)) hi).trans ?_
  simp [hk', hkind, f2]
def gk_V (D : va_G) (cI cB cZ : ClassId) (U : State) : Prop := (∀ w ∈ gn_N, va_Nw w U) ∧ va_K D vwCl [(cI, .int), (cB, .byte), (cZ, .boolean)] U ∧ gk_AO U
theorem gk_V.to {D : va_G} {cI cB cZ : ClassId} {s U : State} (h : gk_V D cI cB cZ s) (hW : s.WarmedH U.vm) : gk_V D cI cB cZ U := by
  refine ⟨fun w hw => ?_, va_K.moved hW.alike h.2.1, h.2.2.moved hW.alike⟩
  have hn := (List.mem_filter.mp hw).2
  have h0 := h.1 w hw
  cases w <;> first | (cases hn; done) | exact va_Nw.warmF hW h0 | exact va_Nw.warmM hW h0
theorem gk_V.blind {D : va_G} {cI cB cZ : ClassId} {U : State} {g : JFrame} {mk : MethodId} {a : Array Value} (h : gk_V D cI cB cZ U) : gk_V D cI cB cZ (U.calling g mk a) := by
  refine ⟨fun w hw => ?_, va_K.moved (u := U) (U := U.calling g mk a) (Vm.Alike.refl U.vm) h.2.1, gk_AO.moved (u := U) (U := U.calling g mk a) (Vm.Alike.refl U.vm) h.2.2⟩
  have hn := (List.mem_filter.mp hw).2
  have h0 := h.1 w hw
  cases w <;> first | (cases hn; done) | exact va_Nw.same (u := U) (U := U.calling g mk a) rfl rfl h0
def gk_A (h0 sz : Nat) : Nat → Prop := fun q => q = h0 ∨ sz ≤ q
theorem gk_cI {D : va_G} {tys : List (ClassId × FieldType)} {a b : ClassId} {s : State} (i j : Nat) (h1 : va_K D vwCl tys s) (e1 : tys[i]? = some (a, .int)) {tys2 : List (ClassId × FieldType)} (h2 : va_K D vwCl tys2 s) (e2 : tys2[j]? = some (b, .int)) : a = b := Option.some.inj ((h1.2 i _ e1).2.symm.trans (h2.2 j _ e2).2)
theorem gk_cB {D : va_G} {tys : List (ClassId × FieldType)} {a b : ClassId} {s : State} (i j : Nat) (h1 : va_K D vwCl tys s) (e1 : tys[i]? = some (a, .byte)) {tys2 : List (ClassId × FieldType)} (h2 : va_K D vwCl tys2 s) (e2 : tys2[j]? = some (b, .byte)) : a = b := Option.some.inj ((h1.2 i _ e1).2.symm.trans (h2.2 j _ e2).2)
theorem gk_cZ {D : va_G} {tys : List (ClassId × FieldType)} {a b : ClassId} {s : State} (i j : Nat) (h1 : va_K D vwCl tys s) (e1 : tys[i]? = some (a, .boolean)) {tys2 : List (ClassId × FieldType)} (h2 : va_K D vwCl tys2 s) (e2 : tys2[j]? = some (b, .boolean)) : a = b := Option.some.inj ((h1.2 i _ e1).2.symm.trans (h2.2 j _ e2).2)
/-- what is said of the class of int[][] -/
def gk_II (D : va_G) (cA : ClassId) (U : State) : Prop := va_K D vwCl [(cA, .array .int)] U
theorem gk_II.one {D : va_G} {a b : ClassId} {s : State} (h1 : gk_II D a s) (h2 : gk_II D b s) : a = b := Option.some.inj ((h1.2 0 _ rfl).2.symm.trans (h2.2 0 _ rfl).2)
theorem gk_pl (l : List Nat) (f : Nat → va_E) (e : va_E) : va_pl ([] ++ l) (vr_up f l e) = l.map (fun a => (a, e)) := by
  unfold va_pl
  rw [List.nil_append]
  exact List.map_congr_left (fun a ha => by rw [vr_up_in ha])
section GKM
variable {p : Program} {l : Launch} {e : Env} {R : Room} {s : State} {m : MethodId} {args : Array Value} {below : List Frame} {meth : Method} {c : Code} {H : Heap} {locs : List Loc} {cells slots : Nat} {Q : State → Prop}
variable {cc : ByteArray} {pc : Nat} {ls : Array Slot} {rest : List Value} {D : va_G} {A : Nat → Prop} {tys : List (ClassId × FieldType)} {ws : va_W} {H0 : Heap}
theorem gk_mna (hexec : p.tables.exec = Jvm.exec) (hb : c.code = cc) {own : String} {index : Nat} {cI : ClassId} (hown : s.vm.findClass own = some m.cls) (hclink : (Cond.classLink own index "[[I").before args s = true) (hover : (Cond.arrayOver (.array .int)).before args s = true) (harr : (Cond.arrayClass .int).before args s = true) (hcy : va_RA s cI .int)
    (hK : va_K D vwCl tys s) (hP : va_P D vwCl ws H) (hD : va_D A ws) (hS : va_S A H0 H locs) (hA : ∀ q, H0.size ≤ q → A q) {n k : Int32} {N' K' : Nat} (hn : ¬ n < 0) (hk : ¬ k < 0) (hN : n.toNatClampNeg = N') (hM : k.toNatClampNeg = K')
    (hb1 : N' * 4 ≤ 536870912) (hb2 : K' * 4 ≤ 536870912) (hb3 : K' ≤ 536870912) (hcells : cells + (1 + N') ≤ R.cells) (hslots : slots + (N' + N' * K') ≤ R.slots) (hdg : decode cc pc = .ok (.multianewarray index 2, 4))
    (kk : ∀ (q : Nat) (r : Nat → Nat) (cA : ClassId) (H1 : Heap), gk_II D cA s → va_P D vwCl ((ws ++ [(q, .inl (cA, N', .inr (.inr (.inr (.inr (fun i => if i < N' then some (r i) else none))))))]) ++ ((List.range N').map r).map (fun a => (a, .inl (cI, K', .inl (fun _ => 0))))) H1 → va_D A ((ws ++ [(q, .inl (cA, N', .inr (.inr (.inr (.inr (fun i => if i < N' then some (r i) else none))))))]) ++ ((List.range N').map r).map (fun a => (a, .inl (cI, K', .inl (fun _ => 0))))) → va_S A H0 H1 locs →
      W p l e R s m args below meth c H1 locs (cells + 1 + N') (slots + N' + N' * K') Q (F0 m (pc + 4) ls (.ref q :: rest))) : W p l e R s m args below meth c H locs cells slots Q (F0 m pc ls (.int k :: .int n :: rest)) := by
  have hP0 : va_P D vwCl (ws ++ va_pl [] (fun _ => .inr (0, []))) H := by rw [show va_pl [] (fun _ => (.inr (0, []) : va_E)) = [] from rfl, List.append_nil]; exact hP
  have hD0 : va_D A (ws ++ va_pl [] (fun _ => .inr (0, []))) := by rw [show va_pl [] (fun _ => (.inr (0, []) : va_E)) = [] from rfl, List.append_nil]; exact hD
  refine va_mna (ty := .int) (z := (K', .inl (fun _ => 0))) hexec hb hown hclink hover harr hcy hK hP0 hD0 hS hA hn hk hN hM hb1 hb2 hb3 rfl rfl hcells hslots (fun c => ?_) hdg (fun q r cA H1 _ _ hK1 hP1 hD1 hS1 => ?_)
  · show ({ cls := c, slots := Array.replicate K' (.int 0), vm := .none } : Cell) = _
    rw [arrV_new]
    rfl
  · rw [gk_pl] at hP1 hD1
    exact kk q r cA H1 ⟨hK1.1, fun i x hx => by
      have h0 : i < 1 := (List.getElem?_eq_some_iff.mp hx).1
      rw [show i = 0 by omega] at hx
      cases hx
      exact hK1.2 tys.length _ (by simp)⟩ hP1 hD1 hS1
end GKM
def gk_fl (n : Nat) (x : Int32) (f : Nat → Int32) : Nat → Int32 := fun j => if j < n then x else f j
theorem gk_fl_s (i : Nat) (x : Int32) (f : Nat → Int32) : upd (gk_fl i x f) i x = gk_fl (i + 1) x f := by
  funext j
  unfold upd gk_fl
  by_cases h : j = i
  · subst h; simp
  · by_cases h2 : j < i
    · simp [h, h2, Nat.lt_succ_of_lt h2]
    · simp [h, h2, show ¬ j < i + 1 by omega]
set_option maxHeartbeats 4000000 in
set_option maxRecDepth 100000 in
/-- Arrays.fill over a world of that row alone -/
theorem k_fill (l : Launch) (D : va_G) (cI cB cZ : ClassId) (a sz n : Nat) (f : Nat → Int32) (x : Int32) (hn : n < 2 ^ 31) : Met l yJ7_fill_53178 (Cond.code yJ7_fill_53178 cJ7_fill_53178 4 none :: gn_T) ({ frames := 0, cells := 0, slots := 0, locals := 0 }) (va_Pc [.ref a, .int x] (fun U => U.heap.size = sz ∧ gk_V D cI cB cZ U ∧ va_P D vwCl [(a, .inl (cI, n, .inl f))] U.heap)) (va_Qv (S := Unit) (fun _ => True) (fun _ t => va_P D vwCl [(a, .inl (cI, n, .inl (gk_fl n x f)))] t.heap) (gk_A a sz)) 0 0 (gk_A a sz) := by
  refine Met.ofW (cc := cJ7_fill_53178) (maxL := 4) (ret := none) pl_J7 rfl ?_
  intro p e s m args below meth c s₁ B hml hv
  obtain ⟨rfl, hsz, hV, hP⟩ := hv
  have hx := B.exec
  have hb := B.bytes
  have hr := B.returns
  have hlocks := B.notSynchronized
  have hK := hV.2.1
  have hS : va_S (gk_A a sz) s.heap s.heap [] := va_S.rf
  have hA : ∀ q, s.heap.size ≤ q → gk_A a sz q := fun q h => Or.inr (by omega)
  have hl := lv_entry ([.ref a, .int x]) (n := 4) (Nat.le_of_ble_eq_true rfl)
  rw [lg_entry_eq]
  generalize (lg_sl ([.ref a, .int x]) ++ List.replicate (4 - (lg_sl ([.ref a, .int x])).length) Slot.unset).toArray = ls at hl ⊢
  have hl : lv_has ls 4 [(0, .ref a), (1, .int x)] := hl
  have hD : ∀ g : Nat → Int32, va_D (gk_A a sz) [(a, .inl (cI, n, .inl g))] := fun g => ⟨fun i j p q hi hj _ => by
    have h1 : i < 1 := (List.getElem?_eq_some_iff.mp hi).1
    have h2 : j < 1 := (List.getElem?_eq_some_iff.mp hj).1
    omega, fun k q hk => by
    have h1 : k < 1 := (List.getElem?_eq_some_iff.mp hk).1
    rw [show k = 0 by omega] at hk
    cases hk
    exact Or.inl rfl⟩
  refine lv_iconst (v := 0) hx hb dJ7_fill_53178_0 (by decide) ?_
  refine lv_istore_n (lv' := [(2, .int 0), (0, .ref a), (1, .int x)]) hx hb dJ7_fill_53178_1 rfl hl (by decide) rfl (fun ls hl => ?_)
  refine lv_aload_n hx hb dJ7_fill_53178_2 rfl (lv_at hl 1 rfl) ?_
  refine va_alen hx hb hK hP 0 0 rfl rfl rfl dJ7_fill_53178_3 ?_
  refine lv_istore_n (lv' := [(3, .int (nI n)), (2, .int 0), (0, .ref a), (1, .int x)]) hx hb dJ7_fill_53178_4 rfl hl (by decide) rfl (fun ls hl => ?_)
  have key : ∀ (k i : Nat) (H : Heap) (locs : List Loc) (ls : Array Slot), i ≤ n → n ≤ i + k → va_P D vwCl [(a, .inl (cI, n, .inl (gk_fl i x f)))] H → va_S (gk_A a sz) s.heap H locs → lv_has ls 4 [(3, .int (nI n)), (2, .int (nI i)), (0, .ref a), (1, .int x)] → W p l e (headSpec (Cond.code yJ7_fill_53178 cJ7_fill_53178 4 none :: gn_T) ({ frames := 0, cells := 0, slots := 0, locals := 0 })).room s m [.ref a, .int x].toArray below meth c H locs 0 0 (MQ below (va_Qv (S := Unit) (fun _ => True) (fun _ t => va_P D vwCl [(a, .inl (cI, n, .inl (gk_fl n x f)))] t.heap) (gk_A a sz)) [.ref a, .int x].toArray s 0 0 (gk_A a sz)) (F0 m 5 ls []) := by
    intro k
    induction k with
    | zero =>
      intro i H locs ls h1 h2 hP hS hl
      have e : i = n := by omega
      subst e
      refine lv_iload_n hx hb dJ7_fill_53178_5 rfl (lv_at hl 1 rfl) ?_
      refine lv_iload_n hx hb dJ7_fill_53178_6 rfl (lv_at hl 0 rfl) ?_
      refine lv_icmp_ge (tgt := 20) hx hb dJ7_fill_53178_7 (by decide) (fun _ => ?_) (fun hc => absurd (Int32.le_refl _) hc)
      exact W.vret hx hb hr (fun t ht hW => ⟨⟨(), rfl, trivial, by show va_P _ _ _ t.heap; rw [ht]; exact hP⟩, hS.F ht⟩) hS.2.2 dJ7_fill_53178_20
    | succ k ih =>
      intro i H locs ls h1 h2 hP hS hl
      refine lv_iload_n hx hb dJ7_fill_53178_5 rfl (lv_at hl 1 rfl) ?_
      refine lv_iload_n hx hb dJ7_fill_53178_6 rfl (lv_at hl 0 rfl) ?_
      refine lv_icmp_ge (tgt := 20) hx hb dJ7_fill_53178_7 (by decide) (fun hc => ?_) (fun hc => ?_)
      · have e : i = n := by
          have := (nI_leI (by omega) (by omega)).mp hc
          omega
        subst e
        exact W.vret hx hb hr (fun t ht hW => ⟨⟨(), rfl, trivial, by show va_P _ _ _ t.heap; rw [ht]; exact hP⟩, hS.F ht⟩) hS.2.2 dJ7_fill_53178_20
      · have hlt : i < n := by
          rcases Nat.lt_or_ge i n with q | q
          · exact q
          · exact absurd (nI_le q (by omega)) hc
        refine lv_aload_n hx hb dJ7_fill_53178_10 rfl (lv_at hl 2 rfl) ?_
        refine lv_iload_n hx hb dJ7_fill_53178_11 rfl (lv_at hl 1 rfl) ?_
        refine lv_iload_n hx hb dJ7_fill_53178_12 rfl (lv_at hl 3 rfl) ?_
        refine va_iast hx hb hK hP (hD _) hS 0 0 rfl rfl (vp_in_nI hlt hn) dJ7_fill_53178_13 (fun H locs hP _ hS => ?_)
        have hP : va_P D vwCl [(a, .inl (cI, n, .inl (upd (gk_fl i x f) (nI i).toNatClampNeg x)))] H := hP
        rw [nI_clamp (by omega), gk_fl_s] at hP
        refine lv_iinc (v := nI (i + 1)) (lv' := [(2, .int (nI (i + 1))), (3, .int (nI n)), (0, .ref a), (1, .int x)]) hx hb dJ7_fill_53178_14 hl (k := 1) rfl (nI_1 i) (by decide) rfl (fun ls hl => ?_)
        refine lv_goto (tgt := 5) hx hb dJ7_fill_53178_17 (by decide) ?_
        exact ih (i + 1) H locs ls hlt (by omega) hP hS (lv_sub hl [1, 0, 2, 3] rfl)
  exact key n 0 s.heap [] ls (Nat.zero_le _) (by omega) (by have e : gk_fl 0 x f = f := by funext j; simp [gk_fl]
                                                            rw [e]; exact hP) hS (by rw [nI_0]; exact hl)
