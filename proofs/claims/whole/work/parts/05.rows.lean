/-! ROWS OF THE JUDGEMENT: one an instruction -/
section GNR
variable {own : String} {cc : ByteArray} {nL F Lc : Nat} {rt : Option FieldType} {xo : Option (Nat × (Nat → Int32))} {pc : Nat} {lv lv' : List (Option Value)} {st rest : List Value} {σ : gn_M} {ρ : Option Value} {σf : gn_M}
/-- an instruction that moves values alone -/
theorem gn_st {pc2 : Nat} {st2 : List Value} (hstep : ∀ (p : Program) (l : Launch) (e : Env) (R : Room) (s : State) (m : MethodId) (args : Array Value) (below : List Frame) (meth : Method) (c : Code) (cells slots : Nat) (Q : State → Prop) (ad : Nat → Nat) (H : Heap) (locs : List Loc) (ls : Array Slot), p.tables.exec = Jvm.exec → c.code = cc → s.vm.findClass own = some m.cls → (∀ w ∈ gn_T, w.before args s = true) → gn_L ls nL ad lv → W p l e R s m args below meth c H locs cells slots Q (F0 m pc2 ls (st2.map (gn_tr ad))) → W p l e R s m args below meth c H locs cells slots Q (F0 m pc ls (st.map (gn_tr ad))))
    (k : gn_Go own cc nL F Lc rt xo pc2 lv st2 σ ρ σf) : gn_Go own cc nL F Lc rt xo pc lv st σ ρ σf := by
  refine ⟨k.1, ?_⟩
  intro p l e R s m args below meth c cells slots Q D cy ad H locs ls hF hV hP hS hL hret
  exact hstep p l e R s m args below meth c cells slots Q ad H locs ls hF.1 hF.2.1 hF.2.2.2.1 hF.2.2.2.2.1 hL (k.2 p l e R s m args below meth c cells slots Q D cy ad H locs ls hF hV hP hS hL hret)
theorem gr_iconst {n : Int} {v : Int32} (d : decode cc pc = .ok (.iconst n, 1)) (hv : Int32.ofInt n = v) (k : gn_Go own cc nL F Lc rt xo (pc + 1) lv (.int v :: rest) σ ρ σf) : gn_Go own cc nL F Lc rt xo pc lv rest σ ρ σf := gn_st (fun _ _ _ _ _ _ _ _ _ _ _ _ _ _ _ _ _ hx hb _ _ _ k => lv_iconst hx hb d hv k) k
theorem gr_bipush {n : Int} {v : Int32} (d : decode cc pc = .ok (.bipush n, 2)) (hv : (Int8.ofInt n).toInt32 = v) (k : gn_Go own cc nL F Lc rt xo (pc + 2) lv (.int v :: rest) σ ρ σf) : gn_Go own cc nL F Lc rt xo pc lv rest σ ρ σf := gn_st (fun _ _ _ _ _ _ _ _ _ _ _ _ _ _ _ _ _ hx hb _ _ _ k => lv_bipush hx hb d hv k) k
theorem gr_sipush {n : Int} {v : Int32} (d : decode cc pc = .ok (.sipush n, 3)) (hv : (Int16.ofInt n).toInt32 = v) (k : gn_Go own cc nL F Lc rt xo (pc + 3) lv (.int v :: rest) σ ρ σf) : gn_Go own cc nL F Lc rt xo pc lv rest σ ρ σf := gn_st (fun _ _ _ _ _ _ _ _ _ _ _ _ _ _ _ _ _ hx hb _ _ _ k => lv_sipush hx hb d hv k) k
theorem gr_lconst {n : Fin 2} {v : Int64} (d : decode cc pc = .ok (.lconst n, 1)) (hv : Int64.ofNat (n : Nat) = v) (k : gn_Go own cc nL F Lc rt xo (pc + 1) lv (.long v :: rest) σ ρ σf) : gn_Go own cc nL F Lc rt xo pc lv rest σ ρ σf := gn_st (fun _ _ _ _ _ _ _ _ _ _ _ _ _ _ _ _ _ hx hb _ _ _ k => lv_lconst hx hb d hv k) k
theorem gr_ldc {index : Nat} {v : Int32} (hw : Cond.constant own index v ∈ gn_T) (d : decode cc pc = .ok (.ldc index, 2)) (k : gn_Go own cc nL F Lc rt xo (pc + 2) lv (.int v :: rest) σ ρ σf) : gn_Go own cc nL F Lc rt xo pc lv rest σ ρ σf := gn_st (fun _ _ _ _ _ _ _ _ _ _ _ _ _ _ _ _ _ hx hb ho ht _ k => lv_ldc hx hb ho (ht _ hw) d k) k
theorem gr_ldcw {index : Nat} {v : Int32} (hw : Cond.constant own index v ∈ gn_T) (d : decode cc pc = .ok (.ldc_w index, 3)) (k : gn_Go own cc nL F Lc rt xo (pc + 3) lv (.int v :: rest) σ ρ σf) : gn_Go own cc nL F Lc rt xo pc lv rest σ ρ σf := gn_st (fun _ _ _ _ _ _ _ _ _ _ _ _ _ _ _ _ _ hx hb ho ht _ k => lv_ldcw hx hb ho (ht _ hw) d k) k
theorem gr_ldc2 {index : Nat} {v : Int64} (hw : Cond.constantLong own index v ∈ gn_T) (d : decode cc pc = .ok (.ldc2_w index, 3)) (k : gn_Go own cc nL F Lc rt xo (pc + 3) lv (.long v :: rest) σ ρ σf) : gn_Go own cc nL F Lc rt xo pc lv rest σ ρ σf := gn_st (fun _ _ _ _ _ _ _ _ _ _ _ _ _ _ _ _ _ hx hb ho ht _ k => lv_ldc2 hx hb ho (ht _ hw) d k) k
theorem gr_iload_n {i : Fin 4} {j : Nat} {x : Int32} (d : decode cc pc = .ok (.iload_n i, 1)) (hi : (i : Nat) = j) (hl : lv[j]? = some (some (.int x))) (k : gn_Go own cc nL F Lc rt xo (pc + 1) lv (.int x :: rest) σ ρ σf) : gn_Go own cc nL F Lc rt xo pc lv rest σ ρ σf := gn_st (fun _ _ _ _ _ _ _ _ _ _ _ _ _ _ _ _ _ hx hb _ _ hL k => lv_iload_n hx hb d hi (hL.2.2 j _ hl) k) k
theorem gr_iload {i : Nat} {x : Int32} (d : decode cc pc = .ok (.iload i, 2)) (hl : lv[i]? = some (some (.int x))) (k : gn_Go own cc nL F Lc rt xo (pc + 2) lv (.int x :: rest) σ ρ σf) : gn_Go own cc nL F Lc rt xo pc lv rest σ ρ σf := gn_st (fun _ _ _ _ _ _ _ _ _ _ _ _ _ _ _ _ _ hx hb _ _ hL k => lv_iload hx hb d (hL.2.2 i _ hl) k) k
theorem gr_aload_n {i : Fin 4} {j : Nat} {x : Nat} (d : decode cc pc = .ok (.aload_n i, 1)) (hi : (i : Nat) = j) (hl : lv[j]? = some (some (.ref x))) (k : gn_Go own cc nL F Lc rt xo (pc + 1) lv (.ref x :: rest) σ ρ σf) : gn_Go own cc nL F Lc rt xo pc lv rest σ ρ σf := gn_st (fun _ _ _ _ _ _ _ _ _ _ _ _ _ _ _ _ _ hx hb _ _ hL k => lv_aload_n hx hb d hi (hL.2.2 j _ hl) k) k
theorem gr_aload {i : Nat} {x : Nat} (d : decode cc pc = .ok (.aload i, 2)) (hl : lv[i]? = some (some (.ref x))) (k : gn_Go own cc nL F Lc rt xo (pc + 2) lv (.ref x :: rest) σ ρ σf) : gn_Go own cc nL F Lc rt xo pc lv rest σ ρ σf := gn_st (fun _ _ _ _ _ _ _ _ _ _ _ _ _ _ _ _ _ hx hb _ _ hL k => lv_aload hx hb d (hL.2.2 i _ hl) k) k
theorem gr_lload_n {i : Fin 4} {j : Nat} {x : Int64} (d : decode cc pc = .ok (.lload_n i, 1)) (hi : (i : Nat) = j) (hl : lv[j]? = some (some (.long x))) (k : gn_Go own cc nL F Lc rt xo (pc + 1) lv (.long x :: rest) σ ρ σf) : gn_Go own cc nL F Lc rt xo pc lv rest σ ρ σf := gn_st (fun _ _ _ _ _ _ _ _ _ _ _ _ _ _ _ _ _ hx hb _ _ hL k => lv_lload_n hx hb d hi (hL.2.2 j _ hl) k) k
theorem gr_lload {i : Nat} {x : Int64} (d : decode cc pc = .ok (.lload i, 2)) (hl : lv[i]? = some (some (.long x))) (k : gn_Go own cc nL F Lc rt xo (pc + 2) lv (.long x :: rest) σ ρ σf) : gn_Go own cc nL F Lc rt xo pc lv rest σ ρ σf := gn_st (fun _ _ _ _ _ _ _ _ _ _ _ _ _ _ _ _ _ hx hb _ _ hL k => lv_lload hx hb d (hL.2.2 i _ hl) k) k
/-- an instruction that changes the locals -/
theorem gn_sl {pc2 : Nat} {st2 : List Value} (hstep : ∀ (p : Program) (l : Launch) (e : Env) (R : Room) (s : State) (m : MethodId) (args : Array Value) (below : List Frame) (meth : Method) (c : Code) (cells slots : Nat) (Q : State → Prop) (ad : Nat → Nat) (H : Heap) (locs : List Loc) (ls : Array Slot), p.tables.exec = Jvm.exec → c.code = cc → gn_L ls nL ad lv → (∀ ls' : Array Slot, gn_L ls' nL ad lv' → W p l e R s m args below meth c H locs cells slots Q (F0 m pc2 ls' (st2.map (gn_tr ad)))) → W p l e R s m args below meth c H locs cells slots Q (F0 m pc ls (st.map (gn_tr ad))))
    (k : gn_Go own cc nL F Lc rt xo pc2 lv' st2 σ ρ σf) : gn_Go own cc nL F Lc rt xo pc lv st σ ρ σf := by
  refine ⟨k.1, ?_⟩
  intro p l e R s m args below meth c cells slots Q D cy ad H locs ls hF hV hP hS hL hret
  exact hstep p l e R s m args below meth c cells slots Q ad H locs ls hF.1 hF.2.1 hL (fun ls' hL' => k.2 p l e R s m args below meth c cells slots Q D cy ad H locs ls' hF hV hP hS hL' hret)
theorem gr_istore_n {i : Fin 4} {j : Nat} {x : Int32} (d : decode cc pc = .ok (.istore_n i, 1)) (hi : (i : Nat) = j) (hn : j < nL) (hl : gn_put1 j (.int x) lv = lv') (k : gn_Go own cc nL F Lc rt xo (pc + 1) lv' rest σ ρ σf) : gn_Go own cc nL F Lc rt xo pc lv (.int x :: rest) σ ρ σf := gn_sl (fun _ _ _ _ _ _ _ _ _ _ _ _ _ _ _ _ _ hx hb hL k => lv_istore_n hx hb d hi hL.has hn rfl (fun ls' h' => k ls' (by rw [← hl]; exact gn_L.put1 h'))) k
theorem gr_istore {j : Nat} {x : Int32} (d : decode cc pc = .ok (.istore j, 2)) (hn : j < nL) (hl : gn_put1 j (.int x) lv = lv') (k : gn_Go own cc nL F Lc rt xo (pc + 2) lv' rest σ ρ σf) : gn_Go own cc nL F Lc rt xo pc lv (.int x :: rest) σ ρ σf := gn_sl (fun _ _ _ _ _ _ _ _ _ _ _ _ _ _ _ _ _ hx hb hL k => lv_istore hx hb d hL.has hn rfl (fun ls' h' => k ls' (by rw [← hl]; exact gn_L.put1 h'))) k
theorem gr_astore_n {i : Fin 4} {j : Nat} {x : Nat} (d : decode cc pc = .ok (.astore_n i, 1)) (hi : (i : Nat) = j) (hn : j < nL) (hl : gn_put1 j (.ref x) lv = lv') (k : gn_Go own cc nL F Lc rt xo (pc + 1) lv' rest σ ρ σf) : gn_Go own cc nL F Lc rt xo pc lv (.ref x :: rest) σ ρ σf := gn_sl (fun _ _ _ _ _ _ _ _ _ _ _ _ _ _ _ _ _ hx hb hL k => lv_astore_n hx hb d hi hL.has hn rfl (fun ls' h' => k ls' (by rw [← hl]; exact gn_L.put1 h'))) k
theorem gr_astore {j : Nat} {x : Nat} (d : decode cc pc = .ok (.astore j, 2)) (hn : j < nL) (hl : gn_put1 j (.ref x) lv = lv') (k : gn_Go own cc nL F Lc rt xo (pc + 2) lv' rest σ ρ σf) : gn_Go own cc nL F Lc rt xo pc lv (.ref x :: rest) σ ρ σf := gn_sl (fun _ _ _ _ _ _ _ _ _ _ _ _ _ _ _ _ _ hx hb hL k => lv_astore hx hb d hL.has hn rfl (fun ls' h' => k ls' (by rw [← hl]; exact gn_L.put1 h'))) k
theorem gr_lstore_n {i : Fin 4} {j : Nat} {x : Int64} (d : decode cc pc = .ok (.lstore_n i, 1)) (hi : (i : Nat) = j) (hn : j + 1 < nL) (hl : gn_put2 j (.long x) lv = lv') (k : gn_Go own cc nL F Lc rt xo (pc + 1) lv' rest σ ρ σf) : gn_Go own cc nL F Lc rt xo pc lv (.long x :: rest) σ ρ σf := gn_sl (fun _ _ _ _ _ _ _ _ _ _ _ _ _ _ _ _ _ hx hb hL k => lv_lstore_n hx hb d hi hL.has hn rfl (fun ls' h' => k ls' (by rw [← hl]; exact gn_L.put2 h'))) k
theorem gr_lstore {j : Nat} {x : Int64} (d : decode cc pc = .ok (.lstore j, 2)) (hn : j + 1 < nL) (hl : gn_put2 j (.long x) lv = lv') (k : gn_Go own cc nL F Lc rt xo (pc + 2) lv' rest σ ρ σf) : gn_Go own cc nL F Lc rt xo pc lv (.long x :: rest) σ ρ σf := gn_sl (fun _ _ _ _ _ _ _ _ _ _ _ _ _ _ _ _ _ hx hb hL k => lv_lstore hx hb d hL.has hn rfl (fun ls' h' => k ls' (by rw [← hl]; exact gn_L.put2 h'))) k
theorem gr_iinc {j : Nat} {n : Int} {x v : Int32} (d : decode cc pc = .ok (.iinc j n, 3)) (hj : lv[j]? = some (some (.int x))) (hv : Int32.ofInt n = v) (hn : j < nL) (hl : gn_put1 j (.int (x + v)) lv = lv') (k : gn_Go own cc nL F Lc rt xo (pc + 3) lv' rest σ ρ σf) : gn_Go own cc nL F Lc rt xo pc lv rest σ ρ σf := gn_sl (fun _ _ _ _ _ _ _ _ _ _ _ _ _ ad _ _ _ hx hb hL k => by
  obtain ⟨k1, hk1⟩ := List.getElem?_of_mem (gn_ll_mem.mpr ⟨_, hj, rfl⟩ : (j, gn_tr ad (.int x)) ∈ gn_ll ad lv)
  exact lv_iinc hx hb d hL.has hk1 (by rw [hv]) hn rfl (fun ls' h' => k ls' (by rw [← hl]; exact gn_L.put1 h'))) k
theorem gr_iadd {x y : Int32} (d : decode cc pc = .ok (.iadd, 1)) (k : gn_Go own cc nL F Lc rt xo (pc + 1) lv (.int (x + y) :: rest) σ ρ σf) : gn_Go own cc nL F Lc rt xo pc lv (.int y :: .int x :: rest) σ ρ σf := gn_st (fun _ _ _ _ _ _ _ _ _ _ _ _ _ _ _ _ _ hx hb _ _ _ k => lv_iadd hx hb d k) k
theorem gr_isub {x y : Int32} (d : decode cc pc = .ok (.isub, 1)) (k : gn_Go own cc nL F Lc rt xo (pc + 1) lv (.int (x - y) :: rest) σ ρ σf) : gn_Go own cc nL F Lc rt xo pc lv (.int y :: .int x :: rest) σ ρ σf := gn_st (fun _ _ _ _ _ _ _ _ _ _ _ _ _ _ _ _ _ hx hb _ _ _ k => lv_isub hx hb d k) k
theorem gr_imul {x y : Int32} (d : decode cc pc = .ok (.imul, 1)) (k : gn_Go own cc nL F Lc rt xo (pc + 1) lv (.int (x * y) :: rest) σ ρ σf) : gn_Go own cc nL F Lc rt xo pc lv (.int y :: .int x :: rest) σ ρ σf := gn_st (fun _ _ _ _ _ _ _ _ _ _ _ _ _ _ _ _ _ hx hb _ _ _ k => lv_imul hx hb d k) k
theorem gr_iand {x y : Int32} (d : decode cc pc = .ok (.iand, 1)) (k : gn_Go own cc nL F Lc rt xo (pc + 1) lv (.int (x &&& y) :: rest) σ ρ σf) : gn_Go own cc nL F Lc rt xo pc lv (.int y :: .int x :: rest) σ ρ σf := gn_st (fun _ _ _ _ _ _ _ _ _ _ _ _ _ _ _ _ _ hx hb _ _ _ k => lv_iand hx hb d k) k
theorem gr_ior {x y : Int32} (d : decode cc pc = .ok (.ior, 1)) (k : gn_Go own cc nL F Lc rt xo (pc + 1) lv (.int (x ||| y) :: rest) σ ρ σf) : gn_Go own cc nL F Lc rt xo pc lv (.int y :: .int x :: rest) σ ρ σf := gn_st (fun _ _ _ _ _ _ _ _ _ _ _ _ _ _ _ _ _ hx hb _ _ _ k => lv_ior hx hb d k) k
theorem gr_ixor {x y : Int32} (d : decode cc pc = .ok (.ixor, 1)) (k : gn_Go own cc nL F Lc rt xo (pc + 1) lv (.int (x ^^^ y) :: rest) σ ρ σf) : gn_Go own cc nL F Lc rt xo pc lv (.int y :: .int x :: rest) σ ρ σf := gn_st (fun _ _ _ _ _ _ _ _ _ _ _ _ _ _ _ _ _ hx hb _ _ _ k => lv_ixor hx hb d k) k
theorem gr_ishl {x y : Int32} (d : decode cc pc = .ok (.ishl, 1)) (k : gn_Go own cc nL F Lc rt xo (pc + 1) lv (.int (x <<< (y &&& 31)) :: rest) σ ρ σf) : gn_Go own cc nL F Lc rt xo pc lv (.int y :: .int x :: rest) σ ρ σf := gn_st (fun _ _ _ _ _ _ _ _ _ _ _ _ _ _ _ _ _ hx hb _ _ _ k => lv_ishl hx hb d k) k
theorem gr_ishr {x y : Int32} (d : decode cc pc = .ok (.ishr, 1)) (k : gn_Go own cc nL F Lc rt xo (pc + 1) lv (.int (x >>> (y &&& 31)) :: rest) σ ρ σf) : gn_Go own cc nL F Lc rt xo pc lv (.int y :: .int x :: rest) σ ρ σf := gn_st (fun _ _ _ _ _ _ _ _ _ _ _ _ _ _ _ _ _ hx hb _ _ _ k => lv_ishr hx hb d k) k
theorem gr_iushr {x y : Int32} (d : decode cc pc = .ok (.iushr, 1)) (k : gn_Go own cc nL F Lc rt xo (pc + 1) lv (.int ((x.toUInt32 >>> (y.toUInt32 &&& Int32.toUInt32 31)).toInt32) :: rest) σ ρ σf) : gn_Go own cc nL F Lc rt xo pc lv (.int y :: .int x :: rest) σ ρ σf := gn_st (fun _ _ _ _ _ _ _ _ _ _ _ _ _ _ _ _ _ hx hb _ _ _ k => lv_iushr hx hb d rfl k) k
theorem gr_idiv {x y : Int32} (d : decode cc pc = .ok (.idiv, 1)) (hy : ¬ y = 0) (k : gn_Go own cc nL F Lc rt xo (pc + 1) lv (.int (x / y) :: rest) σ ρ σf) : gn_Go own cc nL F Lc rt xo pc lv (.int y :: .int x :: rest) σ ρ σf := gn_st (fun _ _ _ _ _ _ _ _ _ _ _ _ _ _ _ _ _ hx hb _ _ _ k => lv_idiv hx hb d hy k) k
theorem gr_irem {x y : Int32} (d : decode cc pc = .ok (.irem, 1)) (hy : ¬ y = 0) (k : gn_Go own cc nL F Lc rt xo (pc + 1) lv (.int (x - x / y * y) :: rest) σ ρ σf) : gn_Go own cc nL F Lc rt xo pc lv (.int y :: .int x :: rest) σ ρ σf := gn_st (fun _ _ _ _ _ _ _ _ _ _ _ _ _ _ _ _ _ hx hb _ _ _ k => lv_irem hx hb d hy k) k
theorem gr_ladd {x y : Int64} (d : decode cc pc = .ok (.ladd, 1)) (k : gn_Go own cc nL F Lc rt xo (pc + 1) lv (.long (x + y) :: rest) σ ρ σf) : gn_Go own cc nL F Lc rt xo pc lv (.long y :: .long x :: rest) σ ρ σf := gn_st (fun _ _ _ _ _ _ _ _ _ _ _ _ _ _ _ _ _ hx hb _ _ _ k => lv_ladd hx hb d k) k
theorem gr_lsub {x y : Int64} (d : decode cc pc = .ok (.lsub, 1)) (k : gn_Go own cc nL F Lc rt xo (pc + 1) lv (.long (x - y) :: rest) σ ρ σf) : gn_Go own cc nL F Lc rt xo pc lv (.long y :: .long x :: rest) σ ρ σf := gn_st (fun _ _ _ _ _ _ _ _ _ _ _ _ _ _ _ _ _ hx hb _ _ _ k => lv_lsub hx hb d k) k
theorem gr_lmul {x y : Int64} (d : decode cc pc = .ok (.lmul, 1)) (k : gn_Go own cc nL F Lc rt xo (pc + 1) lv (.long (x * y) :: rest) σ ρ σf) : gn_Go own cc nL F Lc rt xo pc lv (.long y :: .long x :: rest) σ ρ σf := gn_st (fun _ _ _ _ _ _ _ _ _ _ _ _ _ _ _ _ _ hx hb _ _ _ k => lv_lmul hx hb d k) k
theorem gr_ldiv {x y : Int64} (d : decode cc pc = .ok (.ldiv, 1)) (hy : ¬ y = 0) (k : gn_Go own cc nL F Lc rt xo (pc + 1) lv (.long (x / y) :: rest) σ ρ σf) : gn_Go own cc nL F Lc rt xo pc lv (.long y :: .long x :: rest) σ ρ σf := gn_st (fun _ _ _ _ _ _ _ _ _ _ _ _ _ _ _ _ _ hx hb _ _ _ k => lv_ldiv hx hb d hy k) k
theorem gr_lrem {x y : Int64} (d : decode cc pc = .ok (.lrem, 1)) (hy : ¬ y = 0) (k : gn_Go own cc nL F Lc rt xo (pc + 1) lv (.long (x - x / y * y) :: rest) σ ρ σf) : gn_Go own cc nL F Lc rt xo pc lv (.long y :: .long x :: rest) σ ρ σf := gn_st (fun _ _ _ _ _ _ _ _ _ _ _ _ _ _ _ _ _ hx hb _ _ _ k => lv_lrem hx hb d hy k) k
theorem gr_lcmp {x y : Int64} (d : decode cc pc = .ok (.lcmp, 1)) (k : gn_Go own cc nL F Lc rt xo (pc + 1) lv (.int (lg_cmp x y) :: rest) σ ρ σf) : gn_Go own cc nL F Lc rt xo pc lv (.long y :: .long x :: rest) σ ρ σf := gn_st (fun _ _ _ _ _ _ _ _ _ _ _ _ _ _ _ _ _ hx hb _ _ _ k => W.lcmp hx hb d k) k
theorem gr_i2l {x : Int32} (d : decode cc pc = .ok (.i2l, 1)) (k : gn_Go own cc nL F Lc rt xo (pc + 1) lv (.long x.toInt64 :: rest) σ ρ σf) : gn_Go own cc nL F Lc rt xo pc lv (.int x :: rest) σ ρ σf := gn_st (fun _ _ _ _ _ _ _ _ _ _ _ _ _ _ _ _ _ hx hb _ _ _ k => lv_i2l hx hb d rfl k) k
theorem gr_l2i {x : Int64} (d : decode cc pc = .ok (.l2i, 1)) (k : gn_Go own cc nL F Lc rt xo (pc + 1) lv (.int x.toInt32 :: rest) σ ρ σf) : gn_Go own cc nL F Lc rt xo pc lv (.long x :: rest) σ ρ σf := gn_st (fun _ _ _ _ _ _ _ _ _ _ _ _ _ _ _ _ _ hx hb _ _ _ k => lv_l2i hx hb d rfl k) k
theorem gr_i2b {x : Int32} (d : decode cc pc = .ok (.i2b, 1)) (k : gn_Go own cc nL F Lc rt xo (pc + 1) lv (.int x.toInt8.toInt32 :: rest) σ ρ σf) : gn_Go own cc nL F Lc rt xo pc lv (.int x :: rest) σ ρ σf := gn_st (fun _ _ _ _ _ _ _ _ _ _ _ _ _ _ _ _ _ hx hb _ _ _ k => lv_i2b hx hb d rfl k) k
theorem gr_dup {v : Value} (d : decode cc pc = .ok (.dup, 1)) (hv : v.category = 1) (k : gn_Go own cc nL F Lc rt xo (pc + 1) lv (v :: v :: rest) σ ρ σf) : gn_Go own cc nL F Lc rt xo pc lv (v :: rest) σ ρ σf := gn_st (fun _ _ _ _ _ _ _ _ _ _ _ _ _ _ _ _ _ hx hb _ _ _ k => lv_dup hx hb d (by rw [gn_tr_cat]; exact hv) k) k
theorem gr_pop {v : Value} (d : decode cc pc = .ok (.pop, 1)) (hv : v.category = 1) (k : gn_Go own cc nL F Lc rt xo (pc + 1) lv (rest) σ ρ σf) : gn_Go own cc nL F Lc rt xo pc lv (v :: rest) σ ρ σf := gn_st (fun _ _ _ _ _ _ _ _ _ _ _ _ _ _ _ _ _ hx hb _ _ _ k => lv_pop hx hb d (by rw [gn_tr_cat]; exact hv) k) k
theorem gr_dup2 {v w : Value} (d : decode cc pc = .ok (.dup2, 1)) (hv : v.category = 1) (hw : w.category = 1) (k : gn_Go own cc nL F Lc rt xo (pc + 1) lv (v :: w :: v :: w :: rest) σ ρ σf) : gn_Go own cc nL F Lc rt xo pc lv (v :: w :: rest) σ ρ σf := gn_st (fun _ _ _ _ _ _ _ _ _ _ _ _ _ _ _ _ _ hx hb _ _ _ k => lv_dup2_11 hx hb d (by rw [gn_tr_cat]; exact hv) (by rw [gn_tr_cat]; exact hw) k) k
theorem gr_goto {off : Int} {tgt : Nat} (d : decode cc pc = .ok (.goto off, 3)) (ht : (pc : Int) + off = (tgt : Int)) (k : gn_Go own cc nL F Lc rt xo tgt lv st σ ρ σf) : gn_Go own cc nL F Lc rt xo pc lv st σ ρ σf := gn_st (fun _ _ _ _ _ _ _ _ _ _ _ _ _ _ _ _ _ hx hb _ _ _ k => lv_goto hx hb d ht k) k
theorem gr_icmp_eq {α : Type} {A B : Option α} {v : α} {x y : Int32} {off : Int} {tgt : Nat} (d : decode cc pc = .ok (.if_icmp .eq off, 3)) (ht : (pc : Int) + off = (tgt : Int)) (h : (if x = y then A else B) = some v) (kt : x = y → A = some v → gn_Go own cc nL F Lc rt xo tgt lv rest σ ρ σf) (kf : ¬ (x = y) → B = some v → gn_Go own cc nL F Lc rt xo (pc + 3) lv rest σ ρ σf) : gn_Go own cc nL F Lc rt xo pc lv (.int y :: .int x :: rest) σ ρ σf := by
  by_cases hc : x = y
  · rw [if_pos hc] at h
    have k := kt hc h
    refine ⟨k.1, ?_⟩
    intro p l e R s m args below meth c cells slots Q D cy ad H locs ls hF hV hP hS hL hret
    exact lv_icmp_eq hF.1 hF.2.1 d ht (fun _ => k.2 p l e R s m args below meth c cells slots Q D cy ad H locs ls hF hV hP hS hL hret) (fun hn => absurd hc hn)
  · rw [if_neg hc] at h
    have k := kf hc h
    refine ⟨k.1, ?_⟩
    intro p l e R s m args below meth c cells slots Q D cy ad H locs ls hF hV hP hS hL hret
    exact lv_icmp_eq hF.1 hF.2.1 d ht (fun hn => absurd hn hc) (fun _ => k.2 p l e R s m args below meth c cells slots Q D cy ad H locs ls hF hV hP hS hL hret)
theorem gr_icmpT_eq {x y : Int32} {off : Int} {tgt : Nat} (d : decode cc pc = .ok (.if_icmp .eq off, 3)) (ht : (pc : Int) + off = (tgt : Int)) (hc : x = y) (k : gn_Go own cc nL F Lc rt xo tgt lv rest σ ρ σf) : gn_Go own cc nL F Lc rt xo pc lv (.int y :: .int x :: rest) σ ρ σf := gr_icmp_eq (A := some ()) (B := none) (v := ()) d ht (if_pos hc) (fun _ _ => k) (fun hn _ => absurd hc hn)
theorem gr_icmpF_eq {x y : Int32} {off : Int} {tgt : Nat} (d : decode cc pc = .ok (.if_icmp .eq off, 3)) (ht : (pc : Int) + off = (tgt : Int)) (hc : ¬ (x = y)) (k : gn_Go own cc nL F Lc rt xo (pc + 3) lv rest σ ρ σf) : gn_Go own cc nL F Lc rt xo pc lv (.int y :: .int x :: rest) σ ρ σf := gr_icmp_eq (A := none) (B := some ()) (v := ()) d ht (if_neg hc) (fun hn _ => absurd hn hc) (fun _ _ => k)
theorem gr_if_eq {α : Type} {A B : Option α} {v : α} {x : Int32} {off : Int} {tgt : Nat} (d : decode cc pc = .ok (.ifCond .eq off, 3)) (ht : (pc : Int) + off = (tgt : Int)) (h : (if x = 0 then A else B) = some v) (kt : x = 0 → A = some v → gn_Go own cc nL F Lc rt xo tgt lv rest σ ρ σf) (kf : ¬ (x = 0) → B = some v → gn_Go own cc nL F Lc rt xo (pc + 3) lv rest σ ρ σf) : gn_Go own cc nL F Lc rt xo pc lv (.int x :: rest) σ ρ σf := by
  by_cases hc : x = 0
  · rw [if_pos hc] at h
    have k := kt hc h
    refine ⟨k.1, ?_⟩
    intro p l e R s m args below meth c cells slots Q D cy ad H locs ls hF hV hP hS hL hret
    exact lv_if_eq hF.1 hF.2.1 d ht (fun _ => k.2 p l e R s m args below meth c cells slots Q D cy ad H locs ls hF hV hP hS hL hret) (fun hn => absurd hc hn)
  · rw [if_neg hc] at h
    have k := kf hc h
    refine ⟨k.1, ?_⟩
    intro p l e R s m args below meth c cells slots Q D cy ad H locs ls hF hV hP hS hL hret
    exact lv_if_eq hF.1 hF.2.1 d ht (fun hn => absurd hn hc) (fun _ => k.2 p l e R s m args below meth c cells slots Q D cy ad H locs ls hF hV hP hS hL hret)
theorem gr_ifT_eq {x : Int32} {off : Int} {tgt : Nat} (d : decode cc pc = .ok (.ifCond .eq off, 3)) (ht : (pc : Int) + off = (tgt : Int)) (hc : x = 0) (k : gn_Go own cc nL F Lc rt xo tgt lv rest σ ρ σf) : gn_Go own cc nL F Lc rt xo pc lv (.int x :: rest) σ ρ σf := gr_if_eq (A := some ()) (B := none) (v := ()) d ht (if_pos hc) (fun _ _ => k) (fun hn _ => absurd hc hn)
theorem gr_ifF_eq {x : Int32} {off : Int} {tgt : Nat} (d : decode cc pc = .ok (.ifCond .eq off, 3)) (ht : (pc : Int) + off = (tgt : Int)) (hc : ¬ (x = 0)) (k : gn_Go own cc nL F Lc rt xo (pc + 3) lv rest σ ρ σf) : gn_Go own cc nL F Lc rt xo pc lv (.int x :: rest) σ ρ σf := gr_if_eq (A := none) (B := some ()) (v := ()) d ht (if_neg hc) (fun hn _ => absurd hn hc) (fun _ _ => k)
theorem gr_icmp_ne {α : Type} {A B : Option α} {v : α} {x y : Int32} {off : Int} {tgt : Nat} (d : decode cc pc = .ok (.if_icmp .ne off, 3)) (ht : (pc : Int) + off = (tgt : Int)) (h : (if x = y then A else B) = some v) (kt : x = y → A = some v → gn_Go own cc nL F Lc rt xo (pc + 3) lv rest σ ρ σf) (kf : ¬ (x = y) → B = some v → gn_Go own cc nL F Lc rt xo tgt lv rest σ ρ σf) : gn_Go own cc nL F Lc rt xo pc lv (.int y :: .int x :: rest) σ ρ σf := by
  by_cases hc : x = y
  · rw [if_pos hc] at h
    have k := kt hc h
    refine ⟨k.1, ?_⟩
    intro p l e R s m args below meth c cells slots Q D cy ad H locs ls hF hV hP hS hL hret
    exact lv_icmp_ne hF.1 hF.2.1 d ht (fun hn => absurd hc hn) (fun _ => k.2 p l e R s m args below meth c cells slots Q D cy ad H locs ls hF hV hP hS hL hret)
  · rw [if_neg hc] at h
    have k := kf hc h
    refine ⟨k.1, ?_⟩
    intro p l e R s m args below meth c cells slots Q D cy ad H locs ls hF hV hP hS hL hret
    exact lv_icmp_ne hF.1 hF.2.1 d ht (fun _ => k.2 p l e R s m args below meth c cells slots Q D cy ad H locs ls hF hV hP hS hL hret) (fun hn => absurd hn hc)
theorem gr_icmpT_ne {x y : Int32} {off : Int} {tgt : Nat} (d : decode cc pc = .ok (.if_icmp .ne off, 3)) (ht : (pc : Int) + off = (tgt : Int)) (hc : x = y) (k : gn_Go own cc nL F Lc rt xo (pc + 3) lv rest σ ρ σf) : gn_Go own cc nL F Lc rt xo pc lv (.int y :: .int x :: rest) σ ρ σf := gr_icmp_ne (A := some ()) (B := none) (v := ()) d ht (if_pos hc) (fun _ _ => k) (fun hn _ => absurd hc hn)
theorem gr_icmpF_ne {x y : Int32} {off : Int} {tgt : Nat} (d : decode cc pc = .ok (.if_icmp .ne off, 3)) (ht : (pc : Int) + off = (tgt : Int)) (hc : ¬ (x = y)) (k : gn_Go own cc nL F Lc rt xo tgt lv rest σ ρ σf) : gn_Go own cc nL F Lc rt xo pc lv (.int y :: .int x :: rest) σ ρ σf := gr_icmp_ne (A := none) (B := some ()) (v := ()) d ht (if_neg hc) (fun hn _ => absurd hn hc) (fun _ _ => k)
theorem gr_if_ne {α : Type} {A B : Option α} {v : α} {x : Int32} {off : Int} {tgt : Nat} (d : decode cc pc = .ok (.ifCond .ne off, 3)) (ht : (pc : Int) + off = (tgt : Int)) (h : (if x = 0 then A else B) = some v) (kt : x = 0 → A = some v → gn_Go own cc nL F Lc rt xo (pc + 3) lv rest σ ρ σf) (kf : ¬ (x = 0) → B = some v → gn_Go own cc nL F Lc rt xo tgt lv rest σ ρ σf) : gn_Go own cc nL F Lc rt xo pc lv (.int x :: rest) σ ρ σf := by
  by_cases hc : x = 0
  · rw [if_pos hc] at h
    have k := kt hc h
    refine ⟨k.1, ?_⟩
    intro p l e R s m args below meth c cells slots Q D cy ad H locs ls hF hV hP hS hL hret
    exact lv_if_ne hF.1 hF.2.1 d ht (fun hn => absurd hc hn) (fun _ => k.2 p l e R s m args below meth c cells slots Q D cy ad H locs ls hF hV hP hS hL hret)
  · rw [if_neg hc] at h
    have k := kf hc h
    refine ⟨k.1, ?_⟩
    intro p l e R s m args below meth c cells slots Q D cy ad H locs ls hF hV hP hS hL hret
    exact lv_if_ne hF.1 hF.2.1 d ht (fun _ => k.2 p l e R s m args below meth c cells slots Q D cy ad H locs ls hF hV hP hS hL hret) (fun hn => absurd hn hc)
theorem gr_ifT_ne {x : Int32} {off : Int} {tgt : Nat} (d : decode cc pc = .ok (.ifCond .ne off, 3)) (ht : (pc : Int) + off = (tgt : Int)) (hc : x = 0) (k : gn_Go own cc nL F Lc rt xo (pc + 3) lv rest σ ρ σf) : gn_Go own cc nL F Lc rt xo pc lv (.int x :: rest) σ ρ σf := gr_if_ne (A := some ()) (B := none) (v := ()) d ht (if_pos hc) (fun _ _ => k) (fun hn _ => absurd hc hn)
theorem gr_ifF_ne {x : Int32} {off : Int} {tgt : Nat} (d : decode cc pc = .ok (.ifCond .ne off, 3)) (ht : (pc : Int) + off = (tgt : Int)) (hc : ¬ (x = 0)) (k : gn_Go own cc nL F Lc rt xo tgt lv rest σ ρ σf) : gn_Go own cc nL F Lc rt xo pc lv (.int x :: rest) σ ρ σf := gr_if_ne (A := none) (B := some ()) (v := ()) d ht (if_neg hc) (fun hn _ => absurd hn hc) (fun _ _ => k)
theorem gr_icmp_lt {α : Type} {A B : Option α} {v : α} {x y : Int32} {off : Int} {tgt : Nat} (d : decode cc pc = .ok (.if_icmp .lt off, 3)) (ht : (pc : Int) + off = (tgt : Int)) (h : (if x < y then A else B) = some v) (kt : x < y → A = some v → gn_Go own cc nL F Lc rt xo tgt lv rest σ ρ σf) (kf : ¬ (x < y) → B = some v → gn_Go own cc nL F Lc rt xo (pc + 3) lv rest σ ρ σf) : gn_Go own cc nL F Lc rt xo pc lv (.int y :: .int x :: rest) σ ρ σf := by
  by_cases hc : x < y
  · rw [if_pos hc] at h
    have k := kt hc h
    refine ⟨k.1, ?_⟩
    intro p l e R s m args below meth c cells slots Q D cy ad H locs ls hF hV hP hS hL hret
    exact lv_icmp_lt hF.1 hF.2.1 d ht (fun _ => k.2 p l e R s m args below meth c cells slots Q D cy ad H locs ls hF hV hP hS hL hret) (fun hn => absurd hc hn)
  · rw [if_neg hc] at h
    have k := kf hc h
    refine ⟨k.1, ?_⟩
    intro p l e R s m args below meth c cells slots Q D cy ad H locs ls hF hV hP hS hL hret
    exact lv_icmp_lt hF.1 hF.2.1 d ht (fun hn => absurd hn hc) (fun _ => k.2 p l e R s m args below meth c cells slots Q D cy ad H locs ls hF hV hP hS hL hret)
theorem gr_icmpT_lt {x y : Int32} {off : Int} {tgt : Nat} (d : decode cc pc = .ok (.if_icmp .lt off, 3)) (ht : (pc : Int) + off = (tgt : Int)) (hc : x < y) (k : gn_Go own cc nL F Lc rt xo tgt lv rest σ ρ σf) : gn_Go own cc nL F Lc rt xo pc lv (.int y :: .int x :: rest) σ ρ σf := gr_icmp_lt (A := some ()) (B := none) (v := ()) d ht (if_pos hc) (fun _ _ => k) (fun hn _ => absurd hc hn)
theorem gr_icmpF_lt {x y : Int32} {off : Int} {tgt : Nat} (d : decode cc pc = .ok (.if_icmp .lt off, 3)) (ht : (pc : Int) + off = (tgt : Int)) (hc : ¬ (x < y)) (k : gn_Go own cc nL F Lc rt xo (pc + 3) lv rest σ ρ σf) : gn_Go own cc nL F Lc rt xo pc lv (.int y :: .int x :: rest) σ ρ σf := gr_icmp_lt (A := none) (B := some ()) (v := ()) d ht (if_neg hc) (fun hn _ => absurd hn hc) (fun _ _ => k)
theorem gr_if_lt {α : Type} {A B : Option α} {v : α} {x : Int32} {off : Int} {tgt : Nat} (d : decode cc pc = .ok (.ifCond .lt off, 3)) (ht : (pc : Int) + off = (tgt : Int)) (h : (if x < 0 then A else B) = some v) (kt : x < 0 → A = some v → gn_Go own cc nL F Lc rt xo tgt lv rest σ ρ σf) (kf : ¬ (x < 0) → B = some v → gn_Go own cc nL F Lc rt xo (pc + 3) lv rest σ ρ σf) : gn_Go own cc nL F Lc rt xo pc lv (.int x :: rest) σ ρ σf := by
  by_cases hc : x < 0
  · rw [if_pos hc] at h
    have k := kt hc h
    refine ⟨k.1, ?_⟩
    intro p l e R s m args below meth c cells slots Q D cy ad H locs ls hF hV hP hS hL hret
    exact lv_if_lt hF.1 hF.2.1 d ht (fun _ => k.2 p l e R s m args below meth c cells slots Q D cy ad H locs ls hF hV hP hS hL hret) (fun hn => absurd hc hn)
  · rw [if_neg hc] at h
    have k := kf hc h
    refine ⟨k.1, ?_⟩
    intro p l e R s m args below meth c cells slots Q D cy ad H locs ls hF hV hP hS hL hret
    exact lv_if_lt hF.1 hF.2.1 d ht (fun hn => absurd hn hc) (fun _ => k.2 p l e R s m args below meth c cells slots Q D cy ad H locs ls hF hV hP hS hL hret)
theorem gr_ifT_lt {x : Int32} {off : Int} {tgt : Nat} (d : decode cc pc = .ok (.ifCond .lt off, 3)) (ht : (pc : Int) + off = (tgt : Int)) (hc : x < 0) (k : gn_Go own cc nL F Lc rt xo tgt lv rest σ ρ σf) : gn_Go own cc nL F Lc rt xo pc lv (.int x :: rest) σ ρ σf := gr_if_lt (A := some ()) (B := none) (v := ()) d ht (if_pos hc) (fun _ _ => k) (fun hn _ => absurd hc hn)
theorem gr_ifF_lt {x : Int32} {off : Int} {tgt : Nat} (d : decode cc pc = .ok (.ifCond .lt off, 3)) (ht : (pc : Int) + off = (tgt : Int)) (hc : ¬ (x < 0)) (k : gn_Go own cc nL F Lc rt xo (pc + 3) lv rest σ ρ σf) : gn_Go own cc nL F Lc rt xo pc lv (.int x :: rest) σ ρ σf := gr_if_lt (A := none) (B := some ()) (v := ()) d ht (if_neg hc) (fun hn _ => absurd hn hc) (fun _ _ => k)
theorem gr_icmp_ge {α : Type} {A B : Option α} {v : α} {x y : Int32} {off : Int} {tgt : Nat} (d : decode cc pc = .ok (.if_icmp .ge off, 3)) (ht : (pc : Int) + off = (tgt : Int)) (h : (if x < y then A else B) = some v) (kt : x < y → A = some v → gn_Go own cc nL F Lc rt xo (pc + 3) lv rest σ ρ σf) (kf : ¬ (x < y) → B = some v → gn_Go own cc nL F Lc rt xo tgt lv rest σ ρ σf) : gn_Go own cc nL F Lc rt xo pc lv (.int y :: .int x :: rest) σ ρ σf := by
  by_cases hc : x < y
  · rw [if_pos hc] at h
    have k := kt hc h
    refine ⟨k.1, ?_⟩
    intro p l e R s m args below meth c cells slots Q D cy ad H locs ls hF hV hP hS hL hret
    exact lv_icmp_ge hF.1 hF.2.1 d ht (fun hn => absurd hc (Int32.not_lt.mpr hn)) (fun _ => k.2 p l e R s m args below meth c cells slots Q D cy ad H locs ls hF hV hP hS hL hret)
  · rw [if_neg hc] at h
    have k := kf hc h
    refine ⟨k.1, ?_⟩
    intro p l e R s m args below meth c cells slots Q D cy ad H locs ls hF hV hP hS hL hret
    exact lv_icmp_ge hF.1 hF.2.1 d ht (fun _ => k.2 p l e R s m args below meth c cells slots Q D cy ad H locs ls hF hV hP hS hL hret) (fun hn => absurd (Int32.not_lt.mp hc) hn)
theorem gr_icmpT_ge {x y : Int32} {off : Int} {tgt : Nat} (d : decode cc pc = .ok (.if_icmp .ge off, 3)) (ht : (pc : Int) + off = (tgt : Int)) (hc : x < y) (k : gn_Go own cc nL F Lc rt xo (pc + 3) lv rest σ ρ σf) : gn_Go own cc nL F Lc rt xo pc lv (.int y :: .int x :: rest) σ ρ σf := gr_icmp_ge (A := some ()) (B := none) (v := ()) d ht (if_pos hc) (fun _ _ => k) (fun hn _ => absurd hc hn)
theorem gr_icmpF_ge {x y : Int32} {off : Int} {tgt : Nat} (d : decode cc pc = .ok (.if_icmp .ge off, 3)) (ht : (pc : Int) + off = (tgt : Int)) (hc : ¬ (x < y)) (k : gn_Go own cc nL F Lc rt xo tgt lv rest σ ρ σf) : gn_Go own cc nL F Lc rt xo pc lv (.int y :: .int x :: rest) σ ρ σf := gr_icmp_ge (A := none) (B := some ()) (v := ()) d ht (if_neg hc) (fun hn _ => absurd hn hc) (fun _ _ => k)
theorem gr_if_ge {α : Type} {A B : Option α} {v : α} {x : Int32} {off : Int} {tgt : Nat} (d : decode cc pc = .ok (.ifCond .ge off, 3)) (ht : (pc : Int) + off = (tgt : Int)) (h : (if x < 0 then A else B) = some v) (kt : x < 0 → A = some v → gn_Go own cc nL F Lc rt xo (pc + 3) lv rest σ ρ σf) (kf : ¬ (x < 0) → B = some v → gn_Go own cc nL F Lc rt xo tgt lv rest σ ρ σf) : gn_Go own cc nL F Lc rt xo pc lv (.int x :: rest) σ ρ σf := by
  by_cases hc : x < 0
  · rw [if_pos hc] at h
    have k := kt hc h
    refine ⟨k.1, ?_⟩
    intro p l e R s m args below meth c cells slots Q D cy ad H locs ls hF hV hP hS hL hret
    exact lv_if_ge hF.1 hF.2.1 d ht (fun hn => absurd hc (Int32.not_lt.mpr hn)) (fun _ => k.2 p l e R s m args below meth c cells slots Q D cy ad H locs ls hF hV hP hS hL hret)
  · rw [if_neg hc] at h
    have k := kf hc h
    refine ⟨k.1, ?_⟩
    intro p l e R s m args below meth c cells slots Q D cy ad H locs ls hF hV hP hS hL hret
    exact lv_if_ge hF.1 hF.2.1 d ht (fun _ => k.2 p l e R s m args below meth c cells slots Q D cy ad H locs ls hF hV hP hS hL hret) (fun hn => absurd (Int32.not_lt.mp hc) hn)
theorem gr_ifT_ge {x : Int32} {off : Int} {tgt : Nat} (d : decode cc pc = .ok (.ifCond .ge off, 3)) (ht : (pc : Int) + off = (tgt : Int)) (hc : x < 0) (k : gn_Go own cc nL F Lc rt xo (pc + 3) lv rest σ ρ σf) : gn_Go own cc nL F Lc rt xo pc lv (.int x :: rest) σ ρ σf := gr_if_ge (A := some ()) (B := none) (v := ()) d ht (if_pos hc) (fun _ _ => k) (fun hn _ => absurd hc hn)
theorem gr_ifF_ge {x : Int32} {off : Int} {tgt : Nat} (d : decode cc pc = .ok (.ifCond .ge off, 3)) (ht : (pc : Int) + off = (tgt : Int)) (hc : ¬ (x < 0)) (k : gn_Go own cc nL F Lc rt xo tgt lv rest σ ρ σf) : gn_Go own cc nL F Lc rt xo pc lv (.int x :: rest) σ ρ σf := gr_if_ge (A := none) (B := some ()) (v := ()) d ht (if_neg hc) (fun hn _ => absurd hn hc) (fun _ _ => k)
theorem gr_icmp_gt {α : Type} {A B : Option α} {v : α} {x y : Int32} {off : Int} {tgt : Nat} (d : decode cc pc = .ok (.if_icmp .gt off, 3)) (ht : (pc : Int) + off = (tgt : Int)) (h : (if y < x then A else B) = some v) (kt : y < x → A = some v → gn_Go own cc nL F Lc rt xo tgt lv rest σ ρ σf) (kf : ¬ (y < x) → B = some v → gn_Go own cc nL F Lc rt xo (pc + 3) lv rest σ ρ σf) : gn_Go own cc nL F Lc rt xo pc lv (.int y :: .int x :: rest) σ ρ σf := by
  by_cases hc : y < x
  · rw [if_pos hc] at h
    have k := kt hc h
    refine ⟨k.1, ?_⟩
    intro p l e R s m args below meth c cells slots Q D cy ad H locs ls hF hV hP hS hL hret
    exact lv_icmp_gt hF.1 hF.2.1 d ht (fun _ => k.2 p l e R s m args below meth c cells slots Q D cy ad H locs ls hF hV hP hS hL hret) (fun hn => absurd hc hn)
  · rw [if_neg hc] at h
    have k := kf hc h
    refine ⟨k.1, ?_⟩
    intro p l e R s m args below meth c cells slots Q D cy ad H locs ls hF hV hP hS hL hret
    exact lv_icmp_gt hF.1 hF.2.1 d ht (fun hn => absurd hn hc) (fun _ => k.2 p l e R s m args below meth c cells slots Q D cy ad H locs ls hF hV hP hS hL hret)
theorem gr_icmpT_gt {x y : Int32} {off : Int} {tgt : Nat} (d : decode cc pc = .ok (.if_icmp .gt off, 3)) (ht : (pc : Int) + off = (tgt : Int)) (hc : y < x) (k : gn_Go own cc nL F Lc rt xo tgt lv rest σ ρ σf) : gn_Go own cc nL F Lc rt xo pc lv (.int y :: .int x :: rest) σ ρ σf := gr_icmp_gt (A := some ()) (B := none) (v := ()) d ht (if_pos hc) (fun _ _ => k) (fun hn _ => absurd hc hn)
theorem gr_icmpF_gt {x y : Int32} {off : Int} {tgt : Nat} (d : decode cc pc = .ok (.if_icmp .gt off, 3)) (ht : (pc : Int) + off = (tgt : Int)) (hc : ¬ (y < x)) (k : gn_Go own cc nL F Lc rt xo (pc + 3) lv rest σ ρ σf) : gn_Go own cc nL F Lc rt xo pc lv (.int y :: .int x :: rest) σ ρ σf := gr_icmp_gt (A := none) (B := some ()) (v := ()) d ht (if_neg hc) (fun hn _ => absurd hn hc) (fun _ _ => k)
theorem gr_if_gt {α : Type} {A B : Option α} {v : α} {x : Int32} {off : Int} {tgt : Nat} (d : decode cc pc = .ok (.ifCond .gt off, 3)) (ht : (pc : Int) + off = (tgt : Int)) (h : (if 0 < x then A else B) = some v) (kt : 0 < x → A = some v → gn_Go own cc nL F Lc rt xo tgt lv rest σ ρ σf) (kf : ¬ (0 < x) → B = some v → gn_Go own cc nL F Lc rt xo (pc + 3) lv rest σ ρ σf) : gn_Go own cc nL F Lc rt xo pc lv (.int x :: rest) σ ρ σf := by
  by_cases hc : 0 < x
  · rw [if_pos hc] at h
    have k := kt hc h
    refine ⟨k.1, ?_⟩
    intro p l e R s m args below meth c cells slots Q D cy ad H locs ls hF hV hP hS hL hret
    exact lv_if_gt hF.1 hF.2.1 d ht (fun _ => k.2 p l e R s m args below meth c cells slots Q D cy ad H locs ls hF hV hP hS hL hret) (fun hn => absurd hc hn)
  · rw [if_neg hc] at h
    have k := kf hc h
    refine ⟨k.1, ?_⟩
    intro p l e R s m args below meth c cells slots Q D cy ad H locs ls hF hV hP hS hL hret
    exact lv_if_gt hF.1 hF.2.1 d ht (fun hn => absurd hn hc) (fun _ => k.2 p l e R s m args below meth c cells slots Q D cy ad H locs ls hF hV hP hS hL hret)
theorem gr_ifT_gt {x : Int32} {off : Int} {tgt : Nat} (d : decode cc pc = .ok (.ifCond .gt off, 3)) (ht : (pc : Int) + off = (tgt : Int)) (hc : 0 < x) (k : gn_Go own cc nL F Lc rt xo tgt lv rest σ ρ σf) : gn_Go own cc nL F Lc rt xo pc lv (.int x :: rest) σ ρ σf := gr_if_gt (A := some ()) (B := none) (v := ()) d ht (if_pos hc) (fun _ _ => k) (fun hn _ => absurd hc hn)
theorem gr_ifF_gt {x : Int32} {off : Int} {tgt : Nat} (d : decode cc pc = .ok (.ifCond .gt off, 3)) (ht : (pc : Int) + off = (tgt : Int)) (hc : ¬ (0 < x)) (k : gn_Go own cc nL F Lc rt xo (pc + 3) lv rest σ ρ σf) : gn_Go own cc nL F Lc rt xo pc lv (.int x :: rest) σ ρ σf := gr_if_gt (A := none) (B := some ()) (v := ()) d ht (if_neg hc) (fun hn _ => absurd hn hc) (fun _ _ => k)
theorem gr_icmp_le {α : Type} {A B : Option α} {v : α} {x y : Int32} {off : Int} {tgt : Nat} (d : decode cc pc = .ok (.if_icmp .le off, 3)) (ht : (pc : Int) + off = (tgt : Int)) (h : (if y < x then A else B) = some v) (kt : y < x → A = some v → gn_Go own cc nL F Lc rt xo (pc + 3) lv rest σ ρ σf) (kf : ¬ (y < x) → B = some v → gn_Go own cc nL F Lc rt xo tgt lv rest σ ρ σf) : gn_Go own cc nL F Lc rt xo pc lv (.int y :: .int x :: rest) σ ρ σf := by
  by_cases hc : y < x
  · rw [if_pos hc] at h
    have k := kt hc h
    refine ⟨k.1, ?_⟩
    intro p l e R s m args below meth c cells slots Q D cy ad H locs ls hF hV hP hS hL hret
    exact lv_icmp_le hF.1 hF.2.1 d ht (fun hn => absurd hc (Int32.not_lt.mpr hn)) (fun _ => k.2 p l e R s m args below meth c cells slots Q D cy ad H locs ls hF hV hP hS hL hret)
  · rw [if_neg hc] at h
    have k := kf hc h
    refine ⟨k.1, ?_⟩
    intro p l e R s m args below meth c cells slots Q D cy ad H locs ls hF hV hP hS hL hret
    exact lv_icmp_le hF.1 hF.2.1 d ht (fun _ => k.2 p l e R s m args below meth c cells slots Q D cy ad H locs ls hF hV hP hS hL hret) (fun hn => absurd (Int32.not_lt.mp hc) hn)
theorem gr_icmpT_le {x y : Int32} {off : Int} {tgt : Nat} (d : decode cc pc = .ok (.if_icmp .le off, 3)) (ht : (pc : Int) + off = (tgt : Int)) (hc : y < x) (k : gn_Go own cc nL F Lc rt xo (pc + 3) lv rest σ ρ σf) : gn_Go own cc nL F Lc rt xo pc lv (.int y :: .int x :: rest) σ ρ σf := gr_icmp_le (A := some ()) (B := none) (v := ()) d ht (if_pos hc) (fun _ _ => k) (fun hn _ => absurd hc hn)
theorem gr_icmpF_le {x y : Int32} {off : Int} {tgt : Nat} (d : decode cc pc = .ok (.if_icmp .le off, 3)) (ht : (pc : Int) + off = (tgt : Int)) (hc : ¬ (y < x)) (k : gn_Go own cc nL F Lc rt xo tgt lv rest σ ρ σf) : gn_Go own cc nL F Lc rt xo pc lv (.int y :: .int x :: rest) σ ρ σf := gr_icmp_le (A := none) (B := some ()) (v := ()) d ht (if_neg hc) (fun hn _ => absurd hn hc) (fun _ _ => k)
theorem gr_if_le {α : Type} {A B : Option α} {v : α} {x : Int32} {off : Int} {tgt : Nat} (d : decode cc pc = .ok (.ifCond .le off, 3)) (ht : (pc : Int) + off = (tgt : Int)) (h : (if 0 < x then A else B) = some v) (kt : 0 < x → A = some v → gn_Go own cc nL F Lc rt xo (pc + 3) lv rest σ ρ σf) (kf : ¬ (0 < x) → B = some v → gn_Go own cc nL F Lc rt xo tgt lv rest σ ρ σf) : gn_Go own cc nL F Lc rt xo pc lv (.int x :: rest) σ ρ σf := by
  by_cases hc : 0 < x
  · rw [if_pos hc] at h
    have k := kt hc h
    refine ⟨k.1, ?_⟩
    intro p l e R s m args below meth c cells slots Q D cy ad H locs ls hF hV hP hS hL hret
    exact lv_if_le hF.1 hF.2.1 d ht (fun hn => absurd hc (Int32.not_lt.mpr hn)) (fun _ => k.2 p l e R s m args below meth c cells slots Q D cy ad H locs ls hF hV hP hS hL hret)
  · rw [if_neg hc] at h
    have k := kf hc h
    refine ⟨k.1, ?_⟩
    intro p l e R s m args below meth c cells slots Q D cy ad H locs ls hF hV hP hS hL hret
    exact lv_if_le hF.1 hF.2.1 d ht (fun _ => k.2 p l e R s m args below meth c cells slots Q D cy ad H locs ls hF hV hP hS hL hret) (fun hn => absurd (Int32.not_lt.mp hc) hn)
theorem gr_ifT_le {x : Int32} {off : Int} {tgt : Nat} (d : decode cc pc = .ok (.ifCond .le off, 3)) (ht : (pc : Int) + off = (tgt : Int)) (hc : 0 < x) (k : gn_Go own cc nL F Lc rt xo (pc + 3) lv rest σ ρ σf) : gn_Go own cc nL F Lc rt xo pc lv (.int x :: rest) σ ρ σf := gr_if_le (A := some ()) (B := none) (v := ()) d ht (if_pos hc) (fun _ _ => k) (fun hn _ => absurd hc hn)
theorem gr_ifF_le {x : Int32} {off : Int} {tgt : Nat} (d : decode cc pc = .ok (.ifCond .le off, 3)) (ht : (pc : Int) + off = (tgt : Int)) (hc : ¬ (0 < x)) (k : gn_Go own cc nL F Lc rt xo tgt lv rest σ ρ σf) : gn_Go own cc nL F Lc rt xo pc lv (.int x :: rest) σ ρ σf := gr_if_le (A := none) (B := some ()) (v := ()) d ht (if_neg hc) (fun hn _ => absurd hn hc) (fun _ _ => k)
theorem gr_tsIn {dflt lo hi : Int} {offs : Array Int} {len : Nat} {x : Int32} {off : Int} {tgt : Nat} (d : decode cc pc = .ok (.tableswitch dflt lo hi offs, len)) {z : Int32} (hx : x = z) (h1 : ¬ z.toInt < lo) (h2 : ¬ hi < z.toInt) (ho : offs[(z.toInt - lo).toNat]? = some off) (ht : (pc : Int) + off = (tgt : Int)) (k : gn_Go own cc nL F Lc rt xo tgt lv rest σ ρ σf) : gn_Go own cc nL F Lc rt xo pc lv (.int x :: rest) σ ρ σf := by
  subst hx
  exact gn_st (fun _ _ _ _ _ _ _ _ _ _ _ _ _ _ _ _ _ hx hb _ _ _ k => lv_tableIn hx hb d h1 h2 ho ht k) k
theorem gr_tsOut {dflt lo hi : Int} {offs : Array Int} {len : Nat} {x : Int32} {tgt : Nat} (d : decode cc pc = .ok (.tableswitch dflt lo hi offs, len)) (h : x.toInt < lo ∨ hi < x.toInt) (ht : (pc : Int) + dflt = (tgt : Int)) (k : gn_Go own cc nL F Lc rt xo tgt lv rest σ ρ σf) : gn_Go own cc nL F Lc rt xo pc lv (.int x :: rest) σ ρ σf := gn_st (fun _ _ _ _ _ _ _ _ _ _ _ _ _ _ _ _ _ hx hb _ _ _ k => lv_tableOut hx hb d h ht k) k
theorem gr_ret (d : gn_isRet cc pc ρ) (hf : gn_fit rt ρ) (hst : ρ.toList = st) (hs : σ = σf) : gn_Go own cc nL F Lc rt xo pc lv st σ ρ σf := by
  subst hs
  subst hst
  refine ⟨hf, ?_⟩
  intro p l e R s m args below meth c cells slots Q D cy ad H locs ls hF hV hP hS hL hret
  exact hret pc H locs ls d hP hS
end GNR
