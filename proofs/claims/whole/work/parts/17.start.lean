set_option maxHeartbeats 16000000 in
set_option maxRecDepth 100000 in
/-- THE LAW, from its entry, out of what the pure functions answer -/
theorem start_of {p : Program} {e : Env} {s : State} {m : MethodId} {below : List Frame} {meth : Method} {c : Code} (l : Launch) {b L : Nat} {xs : Nat → Int32} (HP : ∃ (n : Nat) (v : Int32 × gn_M), f_law n L xs gn_0 = some v ∧ v.1 = 1) (C0 : lw_At p s m meth c b L xs) : W p l e room_1 s m #[Value.ref b] below meth c s.heap [] 0 0 (lw_Z below #[Value.ref b] s) (entryFrame m ([Value.ref b] : List Value).toArray 4) := by
  obtain ⟨hx, hb, hr, hml, hown, htl, hX, hbl, hlocks, hgv⟩ := id C0
  have hown : s.vm.findClass RL = some m.cls := hown
  have hts : ∀ w ∈ gn_T, w.before #[Value.ref b] s = true := fun w hw => htl w (List.mem_filter.mp hw).1
  obtain ⟨c0, iS0, hKn0⟩ := u_known (C := RX0) (T := TX0) (N := 11) (n := 11) hts cw_X0 (hts (.instantiable RX0 11) w_in_X0)
  obtain ⟨c1, iS1, hKn1⟩ := u_known (C := RX1) (T := TX1) (N := 8) (n := 8) hts cw_X1 (hts (.instantiable RX1 8) w_in_X1)
  obtain ⟨c2, iS2, hKn2⟩ := u_known (C := RX2) (T := TX2) (N := 3) (n := 3) hts cw_X2 (hts (.instantiable RX2 3) w_in_X2)
  obtain ⟨c3, iS3, hKn3⟩ := u_known (C := RX3) (T := TX3) (N := 13) (n := 13) hts cw_X3 (hts (.instantiable RX3 13) w_in_X3)
  obtain ⟨c4, iS4, hKn4⟩ := u_known (C := RX4) (T := TX4) (N := 24) (n := 24) hts cw_X4 (hts (.instantiable RX4 24) w_in_X4)
  obtain ⟨dC, dI, hKc⟩ : ∃ (dC : Nat → ClassId) (dI : Nat → Nat → Nat), ∀ (k : Nat) (q : vw_C), vwCl[k]? = some q → u_Kn s q.1 q.2.1 q.2.2 (dC k) (dI k) := by
    refine ⟨fun k => if k = 0 then c0 else if k = 1 then c1 else if k = 2 then c2 else if k = 3 then c3 else c4, fun k => if k = 0 then iS0 else if k = 1 then iS1 else if k = 2 then iS2 else if k = 3 then iS3 else iS4, ?_⟩
    intro k q hq
    match k, hq with
    | 0, hq => cases hq; exact hKn0
    | 1, hq => cases hq; exact hKn1
    | 2, hq => cases hq; exact hKn2
    | 3, hq => cases hq; exact hKn3
    | 4, hq => cases hq; exact hKn4
    | k + 5, hq => simp [vwCl] at hq
  obtain ⟨D, hDe⟩ : ∃ D : va_G, D = (dC, dI) := ⟨_, rfl⟩
  obtain ⟨cI, hI⟩ := gn_arrc (hts _ w_arrI) (fun C h => by cases h)
  obtain ⟨cB, hBy⟩ := gn_arrc (hts _ w_arrB) (fun C h => by cases h)
  obtain ⟨cZ, hZb⟩ := gn_arrc (hts _ w_arrZ) (fun C h => by cases h)
  have hK : va_K D vwCl [(cI, .int), (cB, .byte), (cZ, .boolean)] s := ⟨fun k q h => by subst hDe; exact hKc k q h, fun k q h => by
    match k, h with
    | 0, h => cases h; exact hI
    | 1, h => cases h; exact hBy
    | 2, h => cases h; exact hZb⟩
  have hNw : ∀ w ∈ gn_N, va_Nw w s := fun w hw => by
    have h1 := htl w (List.mem_filter.mp hw).1
    have hn := (List.mem_filter.mp hw).2
    cases w <;> first | (cases hn; done) | exact va_Nw.of rfl h1
  have hAO : gk_AO s := htl (Cond.arrayOver (.array .int)) (List.mem_of_getElem? (i := 126) (by decide +kernel))
  have hV : gk_V D cI cB cZ s := ⟨hNw, hK, hAO⟩
  have hfl := flat_of_before _ hgv
  have htm : (Cond.arrayOf (.static "GateNames" "LETTERS" "[I") .int).before #[Value.ref b] s = true := hfl _ (by decide +kernel)
  have hle : (Term.length (.static "GateNames" "LETTERS" "[I")).eval #[Value.ref b] s none [] s = some (.int 6) := gn_eqi (hfl _ (by decide +kernel))
  have he0 : (Term.elem (.static "GateNames" "LETTERS" "[I") (.int 0)).eval #[Value.ref b] s none [] s = some (.int 103) := gn_eqi (hfl _ (by decide +kernel))
  have he1 : (Term.elem (.static "GateNames" "LETTERS" "[I") (.int 1)).eval #[Value.ref b] s none [] s = some (.int 107) := gn_eqi (hfl _ (by decide +kernel))
  have he2 : (Term.elem (.static "GateNames" "LETTERS" "[I") (.int 2)).eval #[Value.ref b] s none [] s = some (.int 115) := gn_eqi (hfl _ (by decide +kernel))
  have he3 : (Term.elem (.static "GateNames" "LETTERS" "[I") (.int 3)).eval #[Value.ref b] s none [] s = some (.int 109) := gn_eqi (hfl _ (by decide +kernel))
  have he4 : (Term.elem (.static "GateNames" "LETTERS" "[I") (.int 4)).eval #[Value.ref b] s none [] s = some (.int 105) := gn_eqi (hfl _ (by decide +kernel))
  have he5 : (Term.elem (.static "GateNames" "LETTERS" "[I") (.int 5)).eval #[Value.ref b] s none [] s = some (.int 102) := gn_eqi (hfl _ (by decide +kernel))
  obtain ⟨t, hte, hT0⟩ := va_Tof (A := fun q : Nat => s.heap.size ≤ q) (f := fun j => .int (gn_let j)) (by decide) htm hle (fun j hj => by
    match j, hj with
    | 0, _ => exact he0
    | 1, _ => exact he1
    | 2, _ => exact he2
    | 3, _ => exact he3
    | 4, _ => exact he4
    | 5, _ => exact he5) (fun a h => Nat.not_le.mpr h)
  have hZ0 := va_Zref (A := fun q : Nat => s.heap.size ≤ q) (htl (Cond.laysStatic "GateNames" "LETTERS" "[I") (List.mem_of_getElem? (i := 360) (by decide +kernel))) (hts _ w_ini_X3) hte (fun a h => Nat.not_le.mpr h)
  have hA : ∀ q : Nat, s.heap.size ≤ q → (fun q : Nat => s.heap.size ≤ q) q := fun _ h => h
  have hS : va_S (fun q : Nat => s.heap.size ≤ q) s.heap s.heap [] := va_S.rf
  have hP : va_P D vwCl [] s.heap := fun k q h => by simp at h
  have hD : va_D (fun q : Nat => s.heap.size ≤ q) [] := ⟨fun i j p q h => by simp at h, fun k q h => by simp at h⟩
  have hl := lv_entry ([.ref b]) (n := 4) (Nat.le_of_ble_eq_true rfl)
  rw [lg_entry_eq]
  generalize (lg_sl ([.ref b]) ++ List.replicate (4 - (lg_sl ([.ref b])).length) Slot.unset).toArray = ls at hl ⊢
  have hl : lv_has ls 4 [(0, .ref b)] := hl
  refine va_new (ci := 3) (fs := [.null, .null, .null, .null, .null, .null, .null, .null, .null, .int 0, .int 0, .long 0, .long 0]) (C := RX3) (T := TX3) (N := 13) hx hb hts cw_X3 tyX3 tyX3_ok hown (hts _ w_cl_L_7) (hts _ w_in_X3) (hts _ w_ini_X3) hK hP hD hS hA rfl (fun j hj => by rcases (show j = 0 ∨ j = 1 ∨ j = 2 ∨ j = 3 ∨ j = 4 ∨ j = 5 ∨ j = 6 ∨ j = 7 ∨ j = 8 ∨ j = 9 ∨ j = 10 ∨ j = 11 ∨ j = 12 by omega) with rfl | rfl | rfl | rfl | rfl | rfl | rfl | rfl | rfl | rfl | rfl | rfl | rfl <;> rfl) (Nat.le_of_ble_eq_true rfl) (Nat.le_of_ble_eq_true rfl) dL_law_0 (fun ga H hP hD hS => ?_)
  refine W.widen (k := 1) (n := 13) (by omega) (by omega) ?_
  have hP : va_P D vwCl [(ga, .inr (3, [.null, .null, .null, .null, .null, .null, .null, .null, .null, .int 0, .int 0, .long 0, .long 0]))] H := hP
  have hD : va_D (fun q : Nat => s.heap.size ≤ q) [(ga, .inr (3, [.null, .null, .null, .null, .null, .null, .null, .null, .null, .int 0, .int 0, .long 0, .long 0]))] := hD
  refine lv_dup hx hb dL_law_3 rfl ?_
  have hPc := hP.sub (ws' := [(ga, .inr (3, [.null, .null, .null, .null, .null, .null, .null, .null, .null, .int 0, .int 0, .long 0, .long 0]))]) [0] rfl
  have hFc : ∀ q, gk_A ga H.size q → s.heap.size ≤ q := fun q h => h.elim (fun e => e ▸ hD.2 0 _ rfl) (fun h => by have := hS.1; omega)
  refine va_callv (va_runI (As := []) (rest := [.ref ga]) (nL := 4) (Ts := gn_T) (n := 0) ⟨hx, hb, hml, hown, hts⟩ (k_X3 l D cI cB cZ ga H.size) (cwI 0 hts (gn_T_good (fun w h => h) my_X3_init.1) rfl rfl rfl (hts _ my_X3_init.2.1) (hts _ w_ml_L_X3) (hts _ w_im_X3_init) rfl my_X3_init.2.2 ⟨Nat.le_of_ble_eq_true rfl, Nat.le_of_ble_eq_true rfl⟩) ⟨fun a U g mk q => ⟨q.1, q.2.1, q.2.2.1.blind, q.2.2.2⟩, fun U hU hW => ⟨rfl, by rw [hU], hV.to hW, by rw [hU]; exact hPc⟩⟩ rfl rfl hl.1 rfl (lv_room (Nat.le_of_ble_eq_true rfl)) dL_law_4 ⟨Nat.le_of_ble_eq_true rfl, Nat.le_of_ble_eq_true rfl⟩) hS (fun q _ h => hFc q h) hFc (fun u t1 H1 locs ht hvm hw hB hz1 hk1 hS => ?_)
  obtain ⟨aq1, aq2, ar3, aq4, aq6, aq7, ar8, aq9, aq11, aq12, aq13, aq14, aq15, aq16, aq17, aq18, aq19, aq20, aq21, aq22, aq23, aq24, ar25, aq27, aq28, aq29, aq30, ac5, ac10, ac26, hP1, hD1, hac5, hac10, hac26⟩ := hB
  rw [ht] at hP1
  have hac5 : gk_II D ac5 s := va_K.moved hvm.symm hac5
  have hac10 : gk_II D ac10 s := va_K.moved hvm.symm hac10
  have hac26 : gk_II D ac26 s := va_K.moved hvm.symm hac26
  obtain ⟨hP, hD⟩ := gk_join2 (wr := []) (wc := [(ga, .inr (3, [.null, .null, .null, .null, .null, .null, .null, .null, .null, .int 0, .int 0, .long 0, .long 0]))]) (w1 := [(ga, .inr (3, [.ref aq1, .ref aq6, .ref aq11, .ref aq18, .ref aq24, .ref aq27, .ref aq28, .ref aq29, .ref aq30, .int 0, .int 0, .long 0, .long 1])), (aq1, .inr (2, [.ref aq2, .ref aq4, .int 40])), (aq2, .inl (ac5, 6, .inr (.inr (.inr (.inr (fun i => if i < 6 then some (ar3 i) else none)))))), ((ar3 0), .inl (cI, 40, .inl (fun _ => 0))), ((ar3 1), .inl (cI, 40, .inl (fun _ => 0))), ((ar3 2), .inl (cI, 40, .inl (fun _ => 0))), ((ar3 3), .inl (cI, 40, .inl (fun _ => 0))), ((ar3 4), .inl (cI, 40, .inl (fun _ => 0))), ((ar3 5), .inl (cI, 40, .inl (fun _ => 0))), (aq4, .inl (cI, 6, .inl (gk_fl 6 (-1) (fun _ => 0)))), (aq6, .inr (2, [.ref aq7, .ref aq9, .int 60])), (aq7, .inl (ac10, 4, .inr (.inr (.inr (.inr (fun i => if i < 4 then some (ar8 i) else none)))))), ((ar8 0), .inl (cI, 60, .inl (fun _ => 0))), ((ar8 1), .inl (cI, 60, .inl (fun _ => 0))), ((ar8 2), .inl (cI, 60, .inl (fun _ => 0))), ((ar8 3), .inl (cI, 60, .inl (fun _ => 0))), (aq9, .inl (cI, 4, .inl (gk_fl 4 (-1) (fun _ => 0)))), (aq11, .inr (0, [.ref aq12, .ref aq13, .ref aq14, .ref aq15, .ref aq16, .ref aq17, .int 0, .int 0, .int 0, .int (-9), .int 0])), (aq12, .inl (cI, 7, .inl (fun _ => 0))), (aq13, .inl (cI, 7, .inl (fun _ => 0))), (aq14, .inl (cI, 7, .inl (fun _ => 0))), (aq15, .inl (cI, 7, .inl (fun _ => 0))), (aq16, .inl (cI, 6, .inl (fun _ => 0))), (aq17, .inl (cI, 40, .inl (fun _ => 0))), (aq18, .inr (1, [.ref aq19, .ref aq20, .ref aq21, .ref aq22, .ref aq23, .int 0, .int 0, .int 0])), (aq19, .inl (cI, 7, .inl (fun _ => 0))), (aq20, .inl (cI, 128, .inl (fun _ => 0))), (aq21, .inl (cI, 128, .inl (fun _ => 0))), (aq22, .inl (cI, 128, .inl (fun _ => 0))), (aq23, .inl (cI, 896, .inl (fun _ => 0))), (aq24, .inl (ac26, 3, .inr (.inr (.inr (.inr (fun i => if i < 3 then some (ar25 i) else none)))))), ((ar25 0), .inl (cI, 40, .inl (fun _ => 0))), ((ar25 1), .inl (cI, 40, .inl (fun _ => 0))), ((ar25 2), .inl (cI, 40, .inl (fun _ => 0))), (aq28, .inl (cI, 7, .inl (fun _ => 0))), (aq29, .inl (cI, 7, .inl (fun _ => 0))), (aq30, .inl (cI, 6, .inl (fun _ => 0))), (aq27, .inl (cI, 3, .inl (gk_fl 3 (-1) (fun _ => 0))))]) hP hD [0] [] rfl rfl (by decide) (by decide) hk1 hFc hP1 hD1
  generalize H1 = H at hP hS ⊢
  refine W.widen (k := 38) (n := 2045) (by omega) (by omega) ?_
  have hP : va_P D vwCl [(ga, .inr (3, [.ref aq1, .ref aq6, .ref aq11, .ref aq18, .ref aq24, .ref aq27, .ref aq28, .ref aq29, .ref aq30, .int 0, .int 0, .long 0, .long 1])), (aq1, .inr (2, [.ref aq2, .ref aq4, .int 40])), (aq2, .inl (ac5, 6, .inr (.inr (.inr (.inr (fun i => if i < 6 then some (ar3 i) else none)))))), ((ar3 0), .inl (cI, 40, .inl (fun _ => 0))), ((ar3 1), .inl (cI, 40, .inl (fun _ => 0))), ((ar3 2), .inl (cI, 40, .inl (fun _ => 0))), ((ar3 3), .inl (cI, 40, .inl (fun _ => 0))), ((ar3 4), .inl (cI, 40, .inl (fun _ => 0))), ((ar3 5), .inl (cI, 40, .inl (fun _ => 0))), (aq4, .inl (cI, 6, .inl (gk_fl 6 (-1) (fun _ => 0)))), (aq6, .inr (2, [.ref aq7, .ref aq9, .int 60])), (aq7, .inl (ac10, 4, .inr (.inr (.inr (.inr (fun i => if i < 4 then some (ar8 i) else none)))))), ((ar8 0), .inl (cI, 60, .inl (fun _ => 0))), ((ar8 1), .inl (cI, 60, .inl (fun _ => 0))), ((ar8 2), .inl (cI, 60, .inl (fun _ => 0))), ((ar8 3), .inl (cI, 60, .inl (fun _ => 0))), (aq9, .inl (cI, 4, .inl (gk_fl 4 (-1) (fun _ => 0)))), (aq11, .inr (0, [.ref aq12, .ref aq13, .ref aq14, .ref aq15, .ref aq16, .ref aq17, .int 0, .int 0, .int 0, .int (-9), .int 0])), (aq12, .inl (cI, 7, .inl (fun _ => 0))), (aq13, .inl (cI, 7, .inl (fun _ => 0))), (aq14, .inl (cI, 7, .inl (fun _ => 0))), (aq15, .inl (cI, 7, .inl (fun _ => 0))), (aq16, .inl (cI, 6, .inl (fun _ => 0))), (aq17, .inl (cI, 40, .inl (fun _ => 0))), (aq18, .inr (1, [.ref aq19, .ref aq20, .ref aq21, .ref aq22, .ref aq23, .int 0, .int 0, .int 0])), (aq19, .inl (cI, 7, .inl (fun _ => 0))), (aq20, .inl (cI, 128, .inl (fun _ => 0))), (aq21, .inl (cI, 128, .inl (fun _ => 0))), (aq22, .inl (cI, 128, .inl (fun _ => 0))), (aq23, .inl (cI, 896, .inl (fun _ => 0))), (aq24, .inl (ac26, 3, .inr (.inr (.inr (.inr (fun i => if i < 3 then some (ar25 i) else none)))))), ((ar25 0), .inl (cI, 40, .inl (fun _ => 0))), ((ar25 1), .inl (cI, 40, .inl (fun _ => 0))), ((ar25 2), .inl (cI, 40, .inl (fun _ => 0))), (aq28, .inl (cI, 7, .inl (fun _ => 0))), (aq29, .inl (cI, 7, .inl (fun _ => 0))), (aq30, .inl (cI, 6, .inl (fun _ => 0))), (aq27, .inl (cI, 3, .inl (gk_fl 3 (-1) (fun _ => 0))))] H := hP
  have hD : va_D (fun q : Nat => s.heap.size ≤ q) [(ga, .inr (3, [.ref aq1, .ref aq6, .ref aq11, .ref aq18, .ref aq24, .ref aq27, .ref aq28, .ref aq29, .ref aq30, .int 0, .int 0, .long 0, .long 1])), (aq1, .inr (2, [.ref aq2, .ref aq4, .int 40])), (aq2, .inl (ac5, 6, .inr (.inr (.inr (.inr (fun i => if i < 6 then some (ar3 i) else none)))))), ((ar3 0), .inl (cI, 40, .inl (fun _ => 0))), ((ar3 1), .inl (cI, 40, .inl (fun _ => 0))), ((ar3 2), .inl (cI, 40, .inl (fun _ => 0))), ((ar3 3), .inl (cI, 40, .inl (fun _ => 0))), ((ar3 4), .inl (cI, 40, .inl (fun _ => 0))), ((ar3 5), .inl (cI, 40, .inl (fun _ => 0))), (aq4, .inl (cI, 6, .inl (gk_fl 6 (-1) (fun _ => 0)))), (aq6, .inr (2, [.ref aq7, .ref aq9, .int 60])), (aq7, .inl (ac10, 4, .inr (.inr (.inr (.inr (fun i => if i < 4 then some (ar8 i) else none)))))), ((ar8 0), .inl (cI, 60, .inl (fun _ => 0))), ((ar8 1), .inl (cI, 60, .inl (fun _ => 0))), ((ar8 2), .inl (cI, 60, .inl (fun _ => 0))), ((ar8 3), .inl (cI, 60, .inl (fun _ => 0))), (aq9, .inl (cI, 4, .inl (gk_fl 4 (-1) (fun _ => 0)))), (aq11, .inr (0, [.ref aq12, .ref aq13, .ref aq14, .ref aq15, .ref aq16, .ref aq17, .int 0, .int 0, .int 0, .int (-9), .int 0])), (aq12, .inl (cI, 7, .inl (fun _ => 0))), (aq13, .inl (cI, 7, .inl (fun _ => 0))), (aq14, .inl (cI, 7, .inl (fun _ => 0))), (aq15, .inl (cI, 7, .inl (fun _ => 0))), (aq16, .inl (cI, 6, .inl (fun _ => 0))), (aq17, .inl (cI, 40, .inl (fun _ => 0))), (aq18, .inr (1, [.ref aq19, .ref aq20, .ref aq21, .ref aq22, .ref aq23, .int 0, .int 0, .int 0])), (aq19, .inl (cI, 7, .inl (fun _ => 0))), (aq20, .inl (cI, 128, .inl (fun _ => 0))), (aq21, .inl (cI, 128, .inl (fun _ => 0))), (aq22, .inl (cI, 128, .inl (fun _ => 0))), (aq23, .inl (cI, 896, .inl (fun _ => 0))), (aq24, .inl (ac26, 3, .inr (.inr (.inr (.inr (fun i => if i < 3 then some (ar25 i) else none)))))), ((ar25 0), .inl (cI, 40, .inl (fun _ => 0))), ((ar25 1), .inl (cI, 40, .inl (fun _ => 0))), ((ar25 2), .inl (cI, 40, .inl (fun _ => 0))), (aq28, .inl (cI, 7, .inl (fun _ => 0))), (aq29, .inl (cI, 7, .inl (fun _ => 0))), (aq30, .inl (cI, 6, .inl (fun _ => 0))), (aq27, .inl (cI, 3, .inl (gk_fl 3 (-1) (fun _ => 0))))] := hD
  refine lv_astore_n (lv' := [(1, .ref ga), (0, .ref b)]) hx hb dL_law_7 rfl hl (by decide) rfl (fun ls hl => ?_)
  refine va_new (ci := 4) (fs := [.int 0, .null, .int 0, .long 0, .long 0, .null, .null, .null, .null, .null, .int 0, .null, .null, .null, .int 0, .null, .int 0, .null, .null, .null, .null, .null, .null, .null]) (C := RX4) (T := TX4) (N := 24) hx hb hts cw_X4 tyX4 tyX4_ok hown (hts _ w_cl_L_10) (hts _ w_in_X4) (hts _ w_ini_X4) hK hP hD hS hA rfl (fun j hj => by rcases (show j = 0 ∨ j = 1 ∨ j = 2 ∨ j = 3 ∨ j = 4 ∨ j = 5 ∨ j = 6 ∨ j = 7 ∨ j = 8 ∨ j = 9 ∨ j = 10 ∨ j = 11 ∨ j = 12 ∨ j = 13 ∨ j = 14 ∨ j = 15 ∨ j = 16 ∨ j = 17 ∨ j = 18 ∨ j = 19 ∨ j = 20 ∨ j = 21 ∨ j = 22 ∨ j = 23 by omega) with rfl | rfl | rfl | rfl | rfl | rfl | rfl | rfl | rfl | rfl | rfl | rfl | rfl | rfl | rfl | rfl | rfl | rfl | rfl | rfl | rfl | rfl | rfl | rfl <;> rfl) (Nat.le_of_ble_eq_true rfl) (Nat.le_of_ble_eq_true rfl) dL_law_8 (fun gb H hP hD hS => ?_)
  refine W.widen (k := 39) (n := 2069) (by omega) (by omega) ?_
  have hP : va_P D vwCl [(ga, .inr (3, [.ref aq1, .ref aq6, .ref aq11, .ref aq18, .ref aq24, .ref aq27, .ref aq28, .ref aq29, .ref aq30, .int 0, .int 0, .long 0, .long 1])), (aq1, .inr (2, [.ref aq2, .ref aq4, .int 40])), (aq2, .inl (ac5, 6, .inr (.inr (.inr (.inr (fun i => if i < 6 then some (ar3 i) else none)))))), ((ar3 0), .inl (cI, 40, .inl (fun _ => 0))), ((ar3 1), .inl (cI, 40, .inl (fun _ => 0))), ((ar3 2), .inl (cI, 40, .inl (fun _ => 0))), ((ar3 3), .inl (cI, 40, .inl (fun _ => 0))), ((ar3 4), .inl (cI, 40, .inl (fun _ => 0))), ((ar3 5), .inl (cI, 40, .inl (fun _ => 0))), (aq4, .inl (cI, 6, .inl (gk_fl 6 (-1) (fun _ => 0)))), (aq6, .inr (2, [.ref aq7, .ref aq9, .int 60])), (aq7, .inl (ac10, 4, .inr (.inr (.inr (.inr (fun i => if i < 4 then some (ar8 i) else none)))))), ((ar8 0), .inl (cI, 60, .inl (fun _ => 0))), ((ar8 1), .inl (cI, 60, .inl (fun _ => 0))), ((ar8 2), .inl (cI, 60, .inl (fun _ => 0))), ((ar8 3), .inl (cI, 60, .inl (fun _ => 0))), (aq9, .inl (cI, 4, .inl (gk_fl 4 (-1) (fun _ => 0)))), (aq11, .inr (0, [.ref aq12, .ref aq13, .ref aq14, .ref aq15, .ref aq16, .ref aq17, .int 0, .int 0, .int 0, .int (-9), .int 0])), (aq12, .inl (cI, 7, .inl (fun _ => 0))), (aq13, .inl (cI, 7, .inl (fun _ => 0))), (aq14, .inl (cI, 7, .inl (fun _ => 0))), (aq15, .inl (cI, 7, .inl (fun _ => 0))), (aq16, .inl (cI, 6, .inl (fun _ => 0))), (aq17, .inl (cI, 40, .inl (fun _ => 0))), (aq18, .inr (1, [.ref aq19, .ref aq20, .ref aq21, .ref aq22, .ref aq23, .int 0, .int 0, .int 0])), (aq19, .inl (cI, 7, .inl (fun _ => 0))), (aq20, .inl (cI, 128, .inl (fun _ => 0))), (aq21, .inl (cI, 128, .inl (fun _ => 0))), (aq22, .inl (cI, 128, .inl (fun _ => 0))), (aq23, .inl (cI, 896, .inl (fun _ => 0))), (aq24, .inl (ac26, 3, .inr (.inr (.inr (.inr (fun i => if i < 3 then some (ar25 i) else none)))))), ((ar25 0), .inl (cI, 40, .inl (fun _ => 0))), ((ar25 1), .inl (cI, 40, .inl (fun _ => 0))), ((ar25 2), .inl (cI, 40, .inl (fun _ => 0))), (aq28, .inl (cI, 7, .inl (fun _ => 0))), (aq29, .inl (cI, 7, .inl (fun _ => 0))), (aq30, .inl (cI, 6, .inl (fun _ => 0))), (aq27, .inl (cI, 3, .inl (gk_fl 3 (-1) (fun _ => 0)))), (gb, .inr (4, [.int 0, .null, .int 0, .long 0, .long 0, .null, .null, .null, .null, .null, .int 0, .null, .null, .null, .int 0, .null, .int 0, .null, .null, .null, .null, .null, .null, .null]))] H := hP
  have hD : va_D (fun q : Nat => s.heap.size ≤ q) [(ga, .inr (3, [.ref aq1, .ref aq6, .ref aq11, .ref aq18, .ref aq24, .ref aq27, .ref aq28, .ref aq29, .ref aq30, .int 0, .int 0, .long 0, .long 1])), (aq1, .inr (2, [.ref aq2, .ref aq4, .int 40])), (aq2, .inl (ac5, 6, .inr (.inr (.inr (.inr (fun i => if i < 6 then some (ar3 i) else none)))))), ((ar3 0), .inl (cI, 40, .inl (fun _ => 0))), ((ar3 1), .inl (cI, 40, .inl (fun _ => 0))), ((ar3 2), .inl (cI, 40, .inl (fun _ => 0))), ((ar3 3), .inl (cI, 40, .inl (fun _ => 0))), ((ar3 4), .inl (cI, 40, .inl (fun _ => 0))), ((ar3 5), .inl (cI, 40, .inl (fun _ => 0))), (aq4, .inl (cI, 6, .inl (gk_fl 6 (-1) (fun _ => 0)))), (aq6, .inr (2, [.ref aq7, .ref aq9, .int 60])), (aq7, .inl (ac10, 4, .inr (.inr (.inr (.inr (fun i => if i < 4 then some (ar8 i) else none)))))), ((ar8 0), .inl (cI, 60, .inl (fun _ => 0))), ((ar8 1), .inl (cI, 60, .inl (fun _ => 0))), ((ar8 2), .inl (cI, 60, .inl (fun _ => 0))), ((ar8 3), .inl (cI, 60, .inl (fun _ => 0))), (aq9, .inl (cI, 4, .inl (gk_fl 4 (-1) (fun _ => 0)))), (aq11, .inr (0, [.ref aq12, .ref aq13, .ref aq14, .ref aq15, .ref aq16, .ref aq17, .int 0, .int 0, .int 0, .int (-9), .int 0])), (aq12, .inl (cI, 7, .inl (fun _ => 0))), (aq13, .inl (cI, 7, .inl (fun _ => 0))), (aq14, .inl (cI, 7, .inl (fun _ => 0))), (aq15, .inl (cI, 7, .inl (fun _ => 0))), (aq16, .inl (cI, 6, .inl (fun _ => 0))), (aq17, .inl (cI, 40, .inl (fun _ => 0))), (aq18, .inr (1, [.ref aq19, .ref aq20, .ref aq21, .ref aq22, .ref aq23, .int 0, .int 0, .int 0])), (aq19, .inl (cI, 7, .inl (fun _ => 0))), (aq20, .inl (cI, 128, .inl (fun _ => 0))), (aq21, .inl (cI, 128, .inl (fun _ => 0))), (aq22, .inl (cI, 128, .inl (fun _ => 0))), (aq23, .inl (cI, 896, .inl (fun _ => 0))), (aq24, .inl (ac26, 3, .inr (.inr (.inr (.inr (fun i => if i < 3 then some (ar25 i) else none)))))), ((ar25 0), .inl (cI, 40, .inl (fun _ => 0))), ((ar25 1), .inl (cI, 40, .inl (fun _ => 0))), ((ar25 2), .inl (cI, 40, .inl (fun _ => 0))), (aq28, .inl (cI, 7, .inl (fun _ => 0))), (aq29, .inl (cI, 7, .inl (fun _ => 0))), (aq30, .inl (cI, 6, .inl (fun _ => 0))), (aq27, .inl (cI, 3, .inl (gk_fl 3 (-1) (fun _ => 0)))), (gb, .inr (4, [.int 0, .null, .int 0, .long 0, .long 0, .null, .null, .null, .null, .null, .int 0, .null, .null, .null, .int 0, .null, .int 0, .null, .null, .null, .null, .null, .null, .null]))] := hD
  refine lv_dup hx hb dL_law_11 rfl ?_
  have hPc := hP.sub (ws' := [(gb, .inr (4, [.int 0, .null, .int 0, .long 0, .long 0, .null, .null, .null, .null, .null, .int 0, .null, .null, .null, .int 0, .null, .int 0, .null, .null, .null, .null, .null, .null, .null]))]) [38] rfl
  have hFc : ∀ q, gk_A gb H.size q → s.heap.size ≤ q := fun q h => h.elim (fun e => e ▸ hD.2 38 _ rfl) (fun h => by have := hS.1; omega)
  refine va_callv (va_runI (As := []) (rest := [.ref gb]) (nL := 4) (Ts := gn_T) (n := 0) ⟨hx, hb, hml, hown, hts⟩ (k_X4 l D cI cB cZ gb H.size) (cwI 0 hts (gn_T_good (fun w h => h) my_X4_init.1) rfl rfl rfl (hts _ my_X4_init.2.1) (hts _ w_ml_L_X4) (hts _ w_im_X4_init) rfl my_X4_init.2.2 ⟨Nat.le_of_ble_eq_true rfl, Nat.le_of_ble_eq_true rfl⟩) ⟨fun a U g mk q => ⟨q.1, q.2.1, q.2.2.1.blind, q.2.2.2⟩, fun U hU hW => ⟨rfl, by rw [hU], hV.to hW, by rw [hU]; exact hPc⟩⟩ rfl rfl hl.1 rfl (lv_room (Nat.le_of_ble_eq_true rfl)) dL_law_12 ⟨Nat.le_of_ble_eq_true rfl, Nat.le_of_ble_eq_true rfl⟩) hS (fun q _ h => hFc q h) hFc (fun u t1 H1 locs ht hvm hw hB hz1 hk1 hS => ?_)
  obtain ⟨bq1, bq2, bq3, bq4, bq5, bq6, bq7, bq8, bq9, bq10, bq11, bq12, bq13, bq14, bq15, bq16, bq17, hP1, hD1⟩ := hB
  rw [ht] at hP1
  obtain ⟨hP, hD⟩ := gk_join2 (wr := [(ga, .inr (3, [.ref aq1, .ref aq6, .ref aq11, .ref aq18, .ref aq24, .ref aq27, .ref aq28, .ref aq29, .ref aq30, .int 0, .int 0, .long 0, .long 1])), (aq1, .inr (2, [.ref aq2, .ref aq4, .int 40])), (aq2, .inl (ac5, 6, .inr (.inr (.inr (.inr (fun i => if i < 6 then some (ar3 i) else none)))))), ((ar3 0), .inl (cI, 40, .inl (fun _ => 0))), ((ar3 1), .inl (cI, 40, .inl (fun _ => 0))), ((ar3 2), .inl (cI, 40, .inl (fun _ => 0))), ((ar3 3), .inl (cI, 40, .inl (fun _ => 0))), ((ar3 4), .inl (cI, 40, .inl (fun _ => 0))), ((ar3 5), .inl (cI, 40, .inl (fun _ => 0))), (aq4, .inl (cI, 6, .inl (gk_fl 6 (-1) (fun _ => 0)))), (aq6, .inr (2, [.ref aq7, .ref aq9, .int 60])), (aq7, .inl (ac10, 4, .inr (.inr (.inr (.inr (fun i => if i < 4 then some (ar8 i) else none)))))), ((ar8 0), .inl (cI, 60, .inl (fun _ => 0))), ((ar8 1), .inl (cI, 60, .inl (fun _ => 0))), ((ar8 2), .inl (cI, 60, .inl (fun _ => 0))), ((ar8 3), .inl (cI, 60, .inl (fun _ => 0))), (aq9, .inl (cI, 4, .inl (gk_fl 4 (-1) (fun _ => 0)))), (aq11, .inr (0, [.ref aq12, .ref aq13, .ref aq14, .ref aq15, .ref aq16, .ref aq17, .int 0, .int 0, .int 0, .int (-9), .int 0])), (aq12, .inl (cI, 7, .inl (fun _ => 0))), (aq13, .inl (cI, 7, .inl (fun _ => 0))), (aq14, .inl (cI, 7, .inl (fun _ => 0))), (aq15, .inl (cI, 7, .inl (fun _ => 0))), (aq16, .inl (cI, 6, .inl (fun _ => 0))), (aq17, .inl (cI, 40, .inl (fun _ => 0))), (aq18, .inr (1, [.ref aq19, .ref aq20, .ref aq21, .ref aq22, .ref aq23, .int 0, .int 0, .int 0])), (aq19, .inl (cI, 7, .inl (fun _ => 0))), (aq20, .inl (cI, 128, .inl (fun _ => 0))), (aq21, .inl (cI, 128, .inl (fun _ => 0))), (aq22, .inl (cI, 128, .inl (fun _ => 0))), (aq23, .inl (cI, 896, .inl (fun _ => 0))), (aq24, .inl (ac26, 3, .inr (.inr (.inr (.inr (fun i => if i < 3 then some (ar25 i) else none)))))), ((ar25 0), .inl (cI, 40, .inl (fun _ => 0))), ((ar25 1), .inl (cI, 40, .inl (fun _ => 0))), ((ar25 2), .inl (cI, 40, .inl (fun _ => 0))), (aq28, .inl (cI, 7, .inl (fun _ => 0))), (aq29, .inl (cI, 7, .inl (fun _ => 0))), (aq30, .inl (cI, 6, .inl (fun _ => 0))), (aq27, .inl (cI, 3, .inl (gk_fl 3 (-1) (fun _ => 0))))]) (wc := [(gb, .inr (4, [.int 0, .null, .int 0, .long 0, .long 0, .null, .null, .null, .null, .null, .int 0, .null, .null, .null, .int 0, .null, .int 0, .null, .null, .null, .null, .null, .null, .null]))]) (w1 := [(gb, .inr (4, [.int 0, .ref bq1, .int 0, .long 0, .long 1, .ref bq2, .ref bq3, .ref bq4, .ref bq5, .ref bq6, .int 0, .ref bq7, .ref bq8, .ref bq9, .int 0, .ref bq10, .int 0, .ref bq11, .ref bq12, .ref bq13, .ref bq14, .ref bq15, .ref bq16, .ref bq17])), (bq1, .inl (cI, 6, .inl (fun _ => 0))), (bq2, .inl (cI, 6, .inl (upd (upd (upd (upd (upd (upd (fun _ => 0) (0 : Int32).toNatClampNeg (-1)) (1 : Int32).toNatClampNeg (-1)) (2 : Int32).toNatClampNeg (-1)) (3 : Int32).toNatClampNeg (-1)) (4 : Int32).toNatClampNeg (-1)) (5 : Int32).toNatClampNeg (-1)))), (bq3, .inl (cI, 240, .inl (fun _ => 0))), (bq4, .inl (cI, 4, .inl (upd (upd (upd (upd (fun _ => 0) (0 : Int32).toNatClampNeg (-1)) (1 : Int32).toNatClampNeg (-1)) (2 : Int32).toNatClampNeg (-1)) (3 : Int32).toNatClampNeg (-1)))), (bq5, .inl (cB, 240, .inl (fun _ => 0))), (bq6, .inl (cI, 40, .inl (fun _ => 0))), (bq7, .inl (cI, 14, .inl (fun _ => 0))), (bq8, .inl (cI, 14, .inl (fun _ => 0))), (bq9, .inl (cI, 14, .inl (fun _ => 0))), (bq10, .inl (cI, 410, .inl (upd (fun _ => 0) (8 : Int32).toNatClampNeg (-9)))), (bq11, .inl (cI, 1230, .inl (fun _ => 0))), (bq12, .inl (cI, 3, .inl (upd (upd (upd (fun _ => 0) (0 : Int32).toNatClampNeg (-1)) (1 : Int32).toNatClampNeg (-1)) (2 : Int32).toNatClampNeg (-1)))), (bq13, .inl (cI, 7, .inl (fun _ => 0))), (bq14, .inl (cI, 896, .inl (fun _ => 0))), (bq15, .inl (cI, 1024, .inl (fun _ => 0))), (bq16, .inl (cI, 7, .inl (fun _ => 0))), (bq17, .inl (cZ, 1024, .inl (fun _ => 0)))]) hP hD [38] [0, 1, 2, 3, 4, 5, 6, 7, 8, 9, 10, 11, 12, 13, 14, 15, 16, 17, 18, 19, 20, 21, 22, 23, 24, 25, 26, 27, 28, 29, 30, 31, 32, 33, 34, 35, 36, 37] rfl rfl (by decide) (by decide) hk1 hFc hP1 hD1
  generalize H1 = H at hP hS ⊢
  refine W.widen (k := 56) (n := 7248) (by omega) (by omega) ?_
  have hP : va_P D vwCl [(ga, .inr (3, [.ref aq1, .ref aq6, .ref aq11, .ref aq18, .ref aq24, .ref aq27, .ref aq28, .ref aq29, .ref aq30, .int 0, .int 0, .long 0, .long 1])), (aq1, .inr (2, [.ref aq2, .ref aq4, .int 40])), (aq2, .inl (ac5, 6, .inr (.inr (.inr (.inr (fun i => if i < 6 then some (ar3 i) else none)))))), ((ar3 0), .inl (cI, 40, .inl (fun _ => 0))), ((ar3 1), .inl (cI, 40, .inl (fun _ => 0))), ((ar3 2), .inl (cI, 40, .inl (fun _ => 0))), ((ar3 3), .inl (cI, 40, .inl (fun _ => 0))), ((ar3 4), .inl (cI, 40, .inl (fun _ => 0))), ((ar3 5), .inl (cI, 40, .inl (fun _ => 0))), (aq4, .inl (cI, 6, .inl (gk_fl 6 (-1) (fun _ => 0)))), (aq6, .inr (2, [.ref aq7, .ref aq9, .int 60])), (aq7, .inl (ac10, 4, .inr (.inr (.inr (.inr (fun i => if i < 4 then some (ar8 i) else none)))))), ((ar8 0), .inl (cI, 60, .inl (fun _ => 0))), ((ar8 1), .inl (cI, 60, .inl (fun _ => 0))), ((ar8 2), .inl (cI, 60, .inl (fun _ => 0))), ((ar8 3), .inl (cI, 60, .inl (fun _ => 0))), (aq9, .inl (cI, 4, .inl (gk_fl 4 (-1) (fun _ => 0)))), (aq11, .inr (0, [.ref aq12, .ref aq13, .ref aq14, .ref aq15, .ref aq16, .ref aq17, .int 0, .int 0, .int 0, .int (-9), .int 0])), (aq12, .inl (cI, 7, .inl (fun _ => 0))), (aq13, .inl (cI, 7, .inl (fun _ => 0))), (aq14, .inl (cI, 7, .inl (fun _ => 0))), (aq15, .inl (cI, 7, .inl (fun _ => 0))), (aq16, .inl (cI, 6, .inl (fun _ => 0))), (aq17, .inl (cI, 40, .inl (fun _ => 0))), (aq18, .inr (1, [.ref aq19, .ref aq20, .ref aq21, .ref aq22, .ref aq23, .int 0, .int 0, .int 0])), (aq19, .inl (cI, 7, .inl (fun _ => 0))), (aq20, .inl (cI, 128, .inl (fun _ => 0))), (aq21, .inl (cI, 128, .inl (fun _ => 0))), (aq22, .inl (cI, 128, .inl (fun _ => 0))), (aq23, .inl (cI, 896, .inl (fun _ => 0))), (aq24, .inl (ac26, 3, .inr (.inr (.inr (.inr (fun i => if i < 3 then some (ar25 i) else none)))))), ((ar25 0), .inl (cI, 40, .inl (fun _ => 0))), ((ar25 1), .inl (cI, 40, .inl (fun _ => 0))), ((ar25 2), .inl (cI, 40, .inl (fun _ => 0))), (aq28, .inl (cI, 7, .inl (fun _ => 0))), (aq29, .inl (cI, 7, .inl (fun _ => 0))), (aq30, .inl (cI, 6, .inl (fun _ => 0))), (aq27, .inl (cI, 3, .inl (gk_fl 3 (-1) (fun _ => 0)))), (gb, .inr (4, [.int 0, .ref bq1, .int 0, .long 0, .long 1, .ref bq2, .ref bq3, .ref bq4, .ref bq5, .ref bq6, .int 0, .ref bq7, .ref bq8, .ref bq9, .int 0, .ref bq10, .int 0, .ref bq11, .ref bq12, .ref bq13, .ref bq14, .ref bq15, .ref bq16, .ref bq17])), (bq1, .inl (cI, 6, .inl (fun _ => 0))), (bq2, .inl (cI, 6, .inl (upd (upd (upd (upd (upd (upd (fun _ => 0) (0 : Int32).toNatClampNeg (-1)) (1 : Int32).toNatClampNeg (-1)) (2 : Int32).toNatClampNeg (-1)) (3 : Int32).toNatClampNeg (-1)) (4 : Int32).toNatClampNeg (-1)) (5 : Int32).toNatClampNeg (-1)))), (bq3, .inl (cI, 240, .inl (fun _ => 0))), (bq4, .inl (cI, 4, .inl (upd (upd (upd (upd (fun _ => 0) (0 : Int32).toNatClampNeg (-1)) (1 : Int32).toNatClampNeg (-1)) (2 : Int32).toNatClampNeg (-1)) (3 : Int32).toNatClampNeg (-1)))), (bq5, .inl (cB, 240, .inl (fun _ => 0))), (bq6, .inl (cI, 40, .inl (fun _ => 0))), (bq7, .inl (cI, 14, .inl (fun _ => 0))), (bq8, .inl (cI, 14, .inl (fun _ => 0))), (bq9, .inl (cI, 14, .inl (fun _ => 0))), (bq10, .inl (cI, 410, .inl (upd (fun _ => 0) (8 : Int32).toNatClampNeg (-9)))), (bq11, .inl (cI, 1230, .inl (fun _ => 0))), (bq12, .inl (cI, 3, .inl (upd (upd (upd (fun _ => 0) (0 : Int32).toNatClampNeg (-1)) (1 : Int32).toNatClampNeg (-1)) (2 : Int32).toNatClampNeg (-1)))), (bq13, .inl (cI, 7, .inl (fun _ => 0))), (bq14, .inl (cI, 896, .inl (fun _ => 0))), (bq15, .inl (cI, 1024, .inl (fun _ => 0))), (bq16, .inl (cI, 7, .inl (fun _ => 0))), (bq17, .inl (cZ, 1024, .inl (fun _ => 0)))] H := hP
  have hD : va_D (fun q : Nat => s.heap.size ≤ q) [(ga, .inr (3, [.ref aq1, .ref aq6, .ref aq11, .ref aq18, .ref aq24, .ref aq27, .ref aq28, .ref aq29, .ref aq30, .int 0, .int 0, .long 0, .long 1])), (aq1, .inr (2, [.ref aq2, .ref aq4, .int 40])), (aq2, .inl (ac5, 6, .inr (.inr (.inr (.inr (fun i => if i < 6 then some (ar3 i) else none)))))), ((ar3 0), .inl (cI, 40, .inl (fun _ => 0))), ((ar3 1), .inl (cI, 40, .inl (fun _ => 0))), ((ar3 2), .inl (cI, 40, .inl (fun _ => 0))), ((ar3 3), .inl (cI, 40, .inl (fun _ => 0))), ((ar3 4), .inl (cI, 40, .inl (fun _ => 0))), ((ar3 5), .inl (cI, 40, .inl (fun _ => 0))), (aq4, .inl (cI, 6, .inl (gk_fl 6 (-1) (fun _ => 0)))), (aq6, .inr (2, [.ref aq7, .ref aq9, .int 60])), (aq7, .inl (ac10, 4, .inr (.inr (.inr (.inr (fun i => if i < 4 then some (ar8 i) else none)))))), ((ar8 0), .inl (cI, 60, .inl (fun _ => 0))), ((ar8 1), .inl (cI, 60, .inl (fun _ => 0))), ((ar8 2), .inl (cI, 60, .inl (fun _ => 0))), ((ar8 3), .inl (cI, 60, .inl (fun _ => 0))), (aq9, .inl (cI, 4, .inl (gk_fl 4 (-1) (fun _ => 0)))), (aq11, .inr (0, [.ref aq12, .ref aq13, .ref aq14, .ref aq15, .ref aq16, .ref aq17, .int 0, .int 0, .int 0, .int (-9), .int 0])), (aq12, .inl (cI, 7, .inl (fun _ => 0))), (aq13, .inl (cI, 7, .inl (fun _ => 0))), (aq14, .inl (cI, 7, .inl (fun _ => 0))), (aq15, .inl (cI, 7, .inl (fun _ => 0))), (aq16, .inl (cI, 6, .inl (fun _ => 0))), (aq17, .inl (cI, 40, .inl (fun _ => 0))), (aq18, .inr (1, [.ref aq19, .ref aq20, .ref aq21, .ref aq22, .ref aq23, .int 0, .int 0, .int 0])), (aq19, .inl (cI, 7, .inl (fun _ => 0))), (aq20, .inl (cI, 128, .inl (fun _ => 0))), (aq21, .inl (cI, 128, .inl (fun _ => 0))), (aq22, .inl (cI, 128, .inl (fun _ => 0))), (aq23, .inl (cI, 896, .inl (fun _ => 0))), (aq24, .inl (ac26, 3, .inr (.inr (.inr (.inr (fun i => if i < 3 then some (ar25 i) else none)))))), ((ar25 0), .inl (cI, 40, .inl (fun _ => 0))), ((ar25 1), .inl (cI, 40, .inl (fun _ => 0))), ((ar25 2), .inl (cI, 40, .inl (fun _ => 0))), (aq28, .inl (cI, 7, .inl (fun _ => 0))), (aq29, .inl (cI, 7, .inl (fun _ => 0))), (aq30, .inl (cI, 6, .inl (fun _ => 0))), (aq27, .inl (cI, 3, .inl (gk_fl 3 (-1) (fun _ => 0)))), (gb, .inr (4, [.int 0, .ref bq1, .int 0, .long 0, .long 1, .ref bq2, .ref bq3, .ref bq4, .ref bq5, .ref bq6, .int 0, .ref bq7, .ref bq8, .ref bq9, .int 0, .ref bq10, .int 0, .ref bq11, .ref bq12, .ref bq13, .ref bq14, .ref bq15, .ref bq16, .ref bq17])), (bq1, .inl (cI, 6, .inl (fun _ => 0))), (bq2, .inl (cI, 6, .inl (upd (upd (upd (upd (upd (upd (fun _ => 0) (0 : Int32).toNatClampNeg (-1)) (1 : Int32).toNatClampNeg (-1)) (2 : Int32).toNatClampNeg (-1)) (3 : Int32).toNatClampNeg (-1)) (4 : Int32).toNatClampNeg (-1)) (5 : Int32).toNatClampNeg (-1)))), (bq3, .inl (cI, 240, .inl (fun _ => 0))), (bq4, .inl (cI, 4, .inl (upd (upd (upd (upd (fun _ => 0) (0 : Int32).toNatClampNeg (-1)) (1 : Int32).toNatClampNeg (-1)) (2 : Int32).toNatClampNeg (-1)) (3 : Int32).toNatClampNeg (-1)))), (bq5, .inl (cB, 240, .inl (fun _ => 0))), (bq6, .inl (cI, 40, .inl (fun _ => 0))), (bq7, .inl (cI, 14, .inl (fun _ => 0))), (bq8, .inl (cI, 14, .inl (fun _ => 0))), (bq9, .inl (cI, 14, .inl (fun _ => 0))), (bq10, .inl (cI, 410, .inl (upd (fun _ => 0) (8 : Int32).toNatClampNeg (-9)))), (bq11, .inl (cI, 1230, .inl (fun _ => 0))), (bq12, .inl (cI, 3, .inl (upd (upd (upd (fun _ => 0) (0 : Int32).toNatClampNeg (-1)) (1 : Int32).toNatClampNeg (-1)) (2 : Int32).toNatClampNeg (-1)))), (bq13, .inl (cI, 7, .inl (fun _ => 0))), (bq14, .inl (cI, 896, .inl (fun _ => 0))), (bq15, .inl (cI, 1024, .inl (fun _ => 0))), (bq16, .inl (cI, 7, .inl (fun _ => 0))), (bq17, .inl (cZ, 1024, .inl (fun _ => 0)))] := hD
  refine lv_astore_n (lv' := [(2, .ref gb), (1, .ref ga), (0, .ref b)]) hx hb dL_law_15 rfl hl (by decide) rfl (fun ls hl => ?_)
  have eac10 : ac10 = ac5 := gk_II.one hac10 hac5
  rw [eac10] at hP hD
  have eac26 : ac26 = ac5 := gk_II.one hac26 hac5
  rw [eac26] at hP hD
  obtain ⟨ad, had⟩ : ∃ ad : Nat → Nat, ad = gn_ad [ga, aq1, aq2, aq4, aq6, aq7, aq9, aq11, aq18, aq24, (ar3 0), (ar3 1), (ar3 2), (ar3 3), (ar3 4), (ar3 5), (ar8 0), (ar8 1), (ar8 2), (ar8 3), (ar25 0), (ar25 1), (ar25 2), aq27, aq28, aq29, aq30, aq12, aq13, aq14, aq15, aq16, aq17, aq19, aq20, aq21, aq22, aq23, gb, bq1, bq2, bq3, bq4, bq5, bq6, bq7, bq8, bq9, bq10, bq11, bq12, bq13, bq14, bq15, bq16, bq17] t b := ⟨_, rfl⟩
  obtain ⟨cy, hcy⟩ : ∃ cy : Nat → ClassId, cy = gn_cy cI cB cZ ac5 := ⟨_, rfl⟩
  have hPW : va_P D vwCl (gn_W cy ad gn_0) H := by
    have key : ∀ (k : Nat) (c : gn_Sh), gn_S[k]? = some c → va_at D vwCl (ad k, gn_E cy ad gn_0 k c) H := by
      intro k c hc
      subst had
      subst hcy
      match k, hc with
      | 0, hc => exact gn_b0 D cI cB cZ ac5 aq1 aq2 aq4 aq6 aq7 aq9 aq11 aq12 aq13 aq14 aq15 aq16 aq17 aq18 aq19 aq20 aq21 aq22 aq23 aq24 aq27 aq28 aq29 aq30 bq1 bq2 bq3 bq4 bq5 bq6 bq7 bq8 bq9 bq10 bq11 bq12 bq13 bq14 bq15 bq16 bq17 ga gb ar3 ar8 ar25 t b H (hP 0 _ rfl) c hc
      | 1, hc => exact gn_b1 D cI cB cZ ac5 aq1 aq2 aq4 aq6 aq7 aq9 aq11 aq12 aq13 aq14 aq15 aq16 aq17 aq18 aq19 aq20 aq21 aq22 aq23 aq24 aq27 aq28 aq29 aq30 bq1 bq2 bq3 bq4 bq5 bq6 bq7 bq8 bq9 bq10 bq11 bq12 bq13 bq14 bq15 bq16 bq17 ga gb ar3 ar8 ar25 t b H (hP 1 _ rfl) c hc
      | 2, hc => exact gn_b2 D cI cB cZ ac5 aq1 aq2 aq4 aq6 aq7 aq9 aq11 aq12 aq13 aq14 aq15 aq16 aq17 aq18 aq19 aq20 aq21 aq22 aq23 aq24 aq27 aq28 aq29 aq30 bq1 bq2 bq3 bq4 bq5 bq6 bq7 bq8 bq9 bq10 bq11 bq12 bq13 bq14 bq15 bq16 bq17 ga gb ar3 ar8 ar25 t b H (hP 2 _ rfl) c hc
      | 3, hc => exact gn_b3 D cI cB cZ ac5 aq1 aq2 aq4 aq6 aq7 aq9 aq11 aq12 aq13 aq14 aq15 aq16 aq17 aq18 aq19 aq20 aq21 aq22 aq23 aq24 aq27 aq28 aq29 aq30 bq1 bq2 bq3 bq4 bq5 bq6 bq7 bq8 bq9 bq10 bq11 bq12 bq13 bq14 bq15 bq16 bq17 ga gb ar3 ar8 ar25 t b H (hP 9 _ rfl) c hc
      | 4, hc => exact gn_b4 D cI cB cZ ac5 aq1 aq2 aq4 aq6 aq7 aq9 aq11 aq12 aq13 aq14 aq15 aq16 aq17 aq18 aq19 aq20 aq21 aq22 aq23 aq24 aq27 aq28 aq29 aq30 bq1 bq2 bq3 bq4 bq5 bq6 bq7 bq8 bq9 bq10 bq11 bq12 bq13 bq14 bq15 bq16 bq17 ga gb ar3 ar8 ar25 t b H (hP 10 _ rfl) c hc
      | 5, hc => exact gn_b5 D cI cB cZ ac5 aq1 aq2 aq4 aq6 aq7 aq9 aq11 aq12 aq13 aq14 aq15 aq16 aq17 aq18 aq19 aq20 aq21 aq22 aq23 aq24 aq27 aq28 aq29 aq30 bq1 bq2 bq3 bq4 bq5 bq6 bq7 bq8 bq9 bq10 bq11 bq12 bq13 bq14 bq15 bq16 bq17 ga gb ar3 ar8 ar25 t b H (hP 11 _ rfl) c hc
      | 6, hc => exact gn_b6 D cI cB cZ ac5 aq1 aq2 aq4 aq6 aq7 aq9 aq11 aq12 aq13 aq14 aq15 aq16 aq17 aq18 aq19 aq20 aq21 aq22 aq23 aq24 aq27 aq28 aq29 aq30 bq1 bq2 bq3 bq4 bq5 bq6 bq7 bq8 bq9 bq10 bq11 bq12 bq13 bq14 bq15 bq16 bq17 ga gb ar3 ar8 ar25 t b H (hP 16 _ rfl) c hc
      | 7, hc => exact gn_b7 D cI cB cZ ac5 aq1 aq2 aq4 aq6 aq7 aq9 aq11 aq12 aq13 aq14 aq15 aq16 aq17 aq18 aq19 aq20 aq21 aq22 aq23 aq24 aq27 aq28 aq29 aq30 bq1 bq2 bq3 bq4 bq5 bq6 bq7 bq8 bq9 bq10 bq11 bq12 bq13 bq14 bq15 bq16 bq17 ga gb ar3 ar8 ar25 t b H (hP 17 _ rfl) c hc
      | 8, hc => exact gn_b8 D cI cB cZ ac5 aq1 aq2 aq4 aq6 aq7 aq9 aq11 aq12 aq13 aq14 aq15 aq16 aq17 aq18 aq19 aq20 aq21 aq22 aq23 aq24 aq27 aq28 aq29 aq30 bq1 bq2 bq3 bq4 bq5 bq6 bq7 bq8 bq9 bq10 bq11 bq12 bq13 bq14 bq15 bq16 bq17 ga gb ar3 ar8 ar25 t b H (hP 24 _ rfl) c hc
      | 9, hc => exact gn_b9 D cI cB cZ ac5 aq1 aq2 aq4 aq6 aq7 aq9 aq11 aq12 aq13 aq14 aq15 aq16 aq17 aq18 aq19 aq20 aq21 aq22 aq23 aq24 aq27 aq28 aq29 aq30 bq1 bq2 bq3 bq4 bq5 bq6 bq7 bq8 bq9 bq10 bq11 bq12 bq13 bq14 bq15 bq16 bq17 ga gb ar3 ar8 ar25 t b H (hP 30 _ rfl) c hc
      | 10, hc => exact gn_b10 D cI cB cZ ac5 aq1 aq2 aq4 aq6 aq7 aq9 aq11 aq12 aq13 aq14 aq15 aq16 aq17 aq18 aq19 aq20 aq21 aq22 aq23 aq24 aq27 aq28 aq29 aq30 bq1 bq2 bq3 bq4 bq5 bq6 bq7 bq8 bq9 bq10 bq11 bq12 bq13 bq14 bq15 bq16 bq17 ga gb ar3 ar8 ar25 t b H (hP 3 _ rfl) c hc
      | 11, hc => exact gn_b11 D cI cB cZ ac5 aq1 aq2 aq4 aq6 aq7 aq9 aq11 aq12 aq13 aq14 aq15 aq16 aq17 aq18 aq19 aq20 aq21 aq22 aq23 aq24 aq27 aq28 aq29 aq30 bq1 bq2 bq3 bq4 bq5 bq6 bq7 bq8 bq9 bq10 bq11 bq12 bq13 bq14 bq15 bq16 bq17 ga gb ar3 ar8 ar25 t b H (hP 4 _ rfl) c hc
      | 12, hc => exact gn_b12 D cI cB cZ ac5 aq1 aq2 aq4 aq6 aq7 aq9 aq11 aq12 aq13 aq14 aq15 aq16 aq17 aq18 aq19 aq20 aq21 aq22 aq23 aq24 aq27 aq28 aq29 aq30 bq1 bq2 bq3 bq4 bq5 bq6 bq7 bq8 bq9 bq10 bq11 bq12 bq13 bq14 bq15 bq16 bq17 ga gb ar3 ar8 ar25 t b H (hP 5 _ rfl) c hc
      | 13, hc => exact gn_b13 D cI cB cZ ac5 aq1 aq2 aq4 aq6 aq7 aq9 aq11 aq12 aq13 aq14 aq15 aq16 aq17 aq18 aq19 aq20 aq21 aq22 aq23 aq24 aq27 aq28 aq29 aq30 bq1 bq2 bq3 bq4 bq5 bq6 bq7 bq8 bq9 bq10 bq11 bq12 bq13 bq14 bq15 bq16 bq17 ga gb ar3 ar8 ar25 t b H (hP 6 _ rfl) c hc
      | 14, hc => exact gn_b14 D cI cB cZ ac5 aq1 aq2 aq4 aq6 aq7 aq9 aq11 aq12 aq13 aq14 aq15 aq16 aq17 aq18 aq19 aq20 aq21 aq22 aq23 aq24 aq27 aq28 aq29 aq30 bq1 bq2 bq3 bq4 bq5 bq6 bq7 bq8 bq9 bq10 bq11 bq12 bq13 bq14 bq15 bq16 bq17 ga gb ar3 ar8 ar25 t b H (hP 7 _ rfl) c hc
      | 15, hc => exact gn_b15 D cI cB cZ ac5 aq1 aq2 aq4 aq6 aq7 aq9 aq11 aq12 aq13 aq14 aq15 aq16 aq17 aq18 aq19 aq20 aq21 aq22 aq23 aq24 aq27 aq28 aq29 aq30 bq1 bq2 bq3 bq4 bq5 bq6 bq7 bq8 bq9 bq10 bq11 bq12 bq13 bq14 bq15 bq16 bq17 ga gb ar3 ar8 ar25 t b H (hP 8 _ rfl) c hc
      | 16, hc => exact gn_b16 D cI cB cZ ac5 aq1 aq2 aq4 aq6 aq7 aq9 aq11 aq12 aq13 aq14 aq15 aq16 aq17 aq18 aq19 aq20 aq21 aq22 aq23 aq24 aq27 aq28 aq29 aq30 bq1 bq2 bq3 bq4 bq5 bq6 bq7 bq8 bq9 bq10 bq11 bq12 bq13 bq14 bq15 bq16 bq17 ga gb ar3 ar8 ar25 t b H (hP 12 _ rfl) c hc
      | 17, hc => exact gn_b17 D cI cB cZ ac5 aq1 aq2 aq4 aq6 aq7 aq9 aq11 aq12 aq13 aq14 aq15 aq16 aq17 aq18 aq19 aq20 aq21 aq22 aq23 aq24 aq27 aq28 aq29 aq30 bq1 bq2 bq3 bq4 bq5 bq6 bq7 bq8 bq9 bq10 bq11 bq12 bq13 bq14 bq15 bq16 bq17 ga gb ar3 ar8 ar25 t b H (hP 13 _ rfl) c hc
      | 18, hc => exact gn_b18 D cI cB cZ ac5 aq1 aq2 aq4 aq6 aq7 aq9 aq11 aq12 aq13 aq14 aq15 aq16 aq17 aq18 aq19 aq20 aq21 aq22 aq23 aq24 aq27 aq28 aq29 aq30 bq1 bq2 bq3 bq4 bq5 bq6 bq7 bq8 bq9 bq10 bq11 bq12 bq13 bq14 bq15 bq16 bq17 ga gb ar3 ar8 ar25 t b H (hP 14 _ rfl) c hc
      | 19, hc => exact gn_b19 D cI cB cZ ac5 aq1 aq2 aq4 aq6 aq7 aq9 aq11 aq12 aq13 aq14 aq15 aq16 aq17 aq18 aq19 aq20 aq21 aq22 aq23 aq24 aq27 aq28 aq29 aq30 bq1 bq2 bq3 bq4 bq5 bq6 bq7 bq8 bq9 bq10 bq11 bq12 bq13 bq14 bq15 bq16 bq17 ga gb ar3 ar8 ar25 t b H (hP 15 _ rfl) c hc
      | 20, hc => exact gn_b20 D cI cB cZ ac5 aq1 aq2 aq4 aq6 aq7 aq9 aq11 aq12 aq13 aq14 aq15 aq16 aq17 aq18 aq19 aq20 aq21 aq22 aq23 aq24 aq27 aq28 aq29 aq30 bq1 bq2 bq3 bq4 bq5 bq6 bq7 bq8 bq9 bq10 bq11 bq12 bq13 bq14 bq15 bq16 bq17 ga gb ar3 ar8 ar25 t b H (hP 31 _ rfl) c hc
      | 21, hc => exact gn_b21 D cI cB cZ ac5 aq1 aq2 aq4 aq6 aq7 aq9 aq11 aq12 aq13 aq14 aq15 aq16 aq17 aq18 aq19 aq20 aq21 aq22 aq23 aq24 aq27 aq28 aq29 aq30 bq1 bq2 bq3 bq4 bq5 bq6 bq7 bq8 bq9 bq10 bq11 bq12 bq13 bq14 bq15 bq16 bq17 ga gb ar3 ar8 ar25 t b H (hP 32 _ rfl) c hc
      | 22, hc => exact gn_b22 D cI cB cZ ac5 aq1 aq2 aq4 aq6 aq7 aq9 aq11 aq12 aq13 aq14 aq15 aq16 aq17 aq18 aq19 aq20 aq21 aq22 aq23 aq24 aq27 aq28 aq29 aq30 bq1 bq2 bq3 bq4 bq5 bq6 bq7 bq8 bq9 bq10 bq11 bq12 bq13 bq14 bq15 bq16 bq17 ga gb ar3 ar8 ar25 t b H (hP 33 _ rfl) c hc
      | 23, hc => exact gn_b23 D cI cB cZ ac5 aq1 aq2 aq4 aq6 aq7 aq9 aq11 aq12 aq13 aq14 aq15 aq16 aq17 aq18 aq19 aq20 aq21 aq22 aq23 aq24 aq27 aq28 aq29 aq30 bq1 bq2 bq3 bq4 bq5 bq6 bq7 bq8 bq9 bq10 bq11 bq12 bq13 bq14 bq15 bq16 bq17 ga gb ar3 ar8 ar25 t b H (hP 37 _ rfl) c hc
      | 24, hc => exact gn_b24 D cI cB cZ ac5 aq1 aq2 aq4 aq6 aq7 aq9 aq11 aq12 aq13 aq14 aq15 aq16 aq17 aq18 aq19 aq20 aq21 aq22 aq23 aq24 aq27 aq28 aq29 aq30 bq1 bq2 bq3 bq4 bq5 bq6 bq7 bq8 bq9 bq10 bq11 bq12 bq13 bq14 bq15 bq16 bq17 ga gb ar3 ar8 ar25 t b H (hP 34 _ rfl) c hc
      | 25, hc => exact gn_b25 D cI cB cZ ac5 aq1 aq2 aq4 aq6 aq7 aq9 aq11 aq12 aq13 aq14 aq15 aq16 aq17 aq18 aq19 aq20 aq21 aq22 aq23 aq24 aq27 aq28 aq29 aq30 bq1 bq2 bq3 bq4 bq5 bq6 bq7 bq8 bq9 bq10 bq11 bq12 bq13 bq14 bq15 bq16 bq17 ga gb ar3 ar8 ar25 t b H (hP 35 _ rfl) c hc
      | 26, hc => exact gn_b26 D cI cB cZ ac5 aq1 aq2 aq4 aq6 aq7 aq9 aq11 aq12 aq13 aq14 aq15 aq16 aq17 aq18 aq19 aq20 aq21 aq22 aq23 aq24 aq27 aq28 aq29 aq30 bq1 bq2 bq3 bq4 bq5 bq6 bq7 bq8 bq9 bq10 bq11 bq12 bq13 bq14 bq15 bq16 bq17 ga gb ar3 ar8 ar25 t b H (hP 36 _ rfl) c hc
      | 27, hc => exact gn_b27 D cI cB cZ ac5 aq1 aq2 aq4 aq6 aq7 aq9 aq11 aq12 aq13 aq14 aq15 aq16 aq17 aq18 aq19 aq20 aq21 aq22 aq23 aq24 aq27 aq28 aq29 aq30 bq1 bq2 bq3 bq4 bq5 bq6 bq7 bq8 bq9 bq10 bq11 bq12 bq13 bq14 bq15 bq16 bq17 ga gb ar3 ar8 ar25 t b H (hP 18 _ rfl) c hc
      | 28, hc => exact gn_b28 D cI cB cZ ac5 aq1 aq2 aq4 aq6 aq7 aq9 aq11 aq12 aq13 aq14 aq15 aq16 aq17 aq18 aq19 aq20 aq21 aq22 aq23 aq24 aq27 aq28 aq29 aq30 bq1 bq2 bq3 bq4 bq5 bq6 bq7 bq8 bq9 bq10 bq11 bq12 bq13 bq14 bq15 bq16 bq17 ga gb ar3 ar8 ar25 t b H (hP 19 _ rfl) c hc
      | 29, hc => exact gn_b29 D cI cB cZ ac5 aq1 aq2 aq4 aq6 aq7 aq9 aq11 aq12 aq13 aq14 aq15 aq16 aq17 aq18 aq19 aq20 aq21 aq22 aq23 aq24 aq27 aq28 aq29 aq30 bq1 bq2 bq3 bq4 bq5 bq6 bq7 bq8 bq9 bq10 bq11 bq12 bq13 bq14 bq15 bq16 bq17 ga gb ar3 ar8 ar25 t b H (hP 20 _ rfl) c hc
      | 30, hc => exact gn_b30 D cI cB cZ ac5 aq1 aq2 aq4 aq6 aq7 aq9 aq11 aq12 aq13 aq14 aq15 aq16 aq17 aq18 aq19 aq20 aq21 aq22 aq23 aq24 aq27 aq28 aq29 aq30 bq1 bq2 bq3 bq4 bq5 bq6 bq7 bq8 bq9 bq10 bq11 bq12 bq13 bq14 bq15 bq16 bq17 ga gb ar3 ar8 ar25 t b H (hP 21 _ rfl) c hc
      | 31, hc => exact gn_b31 D cI cB cZ ac5 aq1 aq2 aq4 aq6 aq7 aq9 aq11 aq12 aq13 aq14 aq15 aq16 aq17 aq18 aq19 aq20 aq21 aq22 aq23 aq24 aq27 aq28 aq29 aq30 bq1 bq2 bq3 bq4 bq5 bq6 bq7 bq8 bq9 bq10 bq11 bq12 bq13 bq14 bq15 bq16 bq17 ga gb ar3 ar8 ar25 t b H (hP 22 _ rfl) c hc
      | 32, hc => exact gn_b32 D cI cB cZ ac5 aq1 aq2 aq4 aq6 aq7 aq9 aq11 aq12 aq13 aq14 aq15 aq16 aq17 aq18 aq19 aq20 aq21 aq22 aq23 aq24 aq27 aq28 aq29 aq30 bq1 bq2 bq3 bq4 bq5 bq6 bq7 bq8 bq9 bq10 bq11 bq12 bq13 bq14 bq15 bq16 bq17 ga gb ar3 ar8 ar25 t b H (hP 23 _ rfl) c hc
      | 33, hc => exact gn_b33 D cI cB cZ ac5 aq1 aq2 aq4 aq6 aq7 aq9 aq11 aq12 aq13 aq14 aq15 aq16 aq17 aq18 aq19 aq20 aq21 aq22 aq23 aq24 aq27 aq28 aq29 aq30 bq1 bq2 bq3 bq4 bq5 bq6 bq7 bq8 bq9 bq10 bq11 bq12 bq13 bq14 bq15 bq16 bq17 ga gb ar3 ar8 ar25 t b H (hP 25 _ rfl) c hc
      | 34, hc => exact gn_b34 D cI cB cZ ac5 aq1 aq2 aq4 aq6 aq7 aq9 aq11 aq12 aq13 aq14 aq15 aq16 aq17 aq18 aq19 aq20 aq21 aq22 aq23 aq24 aq27 aq28 aq29 aq30 bq1 bq2 bq3 bq4 bq5 bq6 bq7 bq8 bq9 bq10 bq11 bq12 bq13 bq14 bq15 bq16 bq17 ga gb ar3 ar8 ar25 t b H (hP 26 _ rfl) c hc
      | 35, hc => exact gn_b35 D cI cB cZ ac5 aq1 aq2 aq4 aq6 aq7 aq9 aq11 aq12 aq13 aq14 aq15 aq16 aq17 aq18 aq19 aq20 aq21 aq22 aq23 aq24 aq27 aq28 aq29 aq30 bq1 bq2 bq3 bq4 bq5 bq6 bq7 bq8 bq9 bq10 bq11 bq12 bq13 bq14 bq15 bq16 bq17 ga gb ar3 ar8 ar25 t b H (hP 27 _ rfl) c hc
      | 36, hc => exact gn_b36 D cI cB cZ ac5 aq1 aq2 aq4 aq6 aq7 aq9 aq11 aq12 aq13 aq14 aq15 aq16 aq17 aq18 aq19 aq20 aq21 aq22 aq23 aq24 aq27 aq28 aq29 aq30 bq1 bq2 bq3 bq4 bq5 bq6 bq7 bq8 bq9 bq10 bq11 bq12 bq13 bq14 bq15 bq16 bq17 ga gb ar3 ar8 ar25 t b H (hP 28 _ rfl) c hc
      | 37, hc => exact gn_b37 D cI cB cZ ac5 aq1 aq2 aq4 aq6 aq7 aq9 aq11 aq12 aq13 aq14 aq15 aq16 aq17 aq18 aq19 aq20 aq21 aq22 aq23 aq24 aq27 aq28 aq29 aq30 bq1 bq2 bq3 bq4 bq5 bq6 bq7 bq8 bq9 bq10 bq11 bq12 bq13 bq14 bq15 bq16 bq17 ga gb ar3 ar8 ar25 t b H (hP 29 _ rfl) c hc
      | 38, hc => exact gn_b38 D cI cB cZ ac5 aq1 aq2 aq4 aq6 aq7 aq9 aq11 aq12 aq13 aq14 aq15 aq16 aq17 aq18 aq19 aq20 aq21 aq22 aq23 aq24 aq27 aq28 aq29 aq30 bq1 bq2 bq3 bq4 bq5 bq6 bq7 bq8 bq9 bq10 bq11 bq12 bq13 bq14 bq15 bq16 bq17 ga gb ar3 ar8 ar25 t b H (hP 38 _ rfl) c hc
      | 39, hc => exact gn_b39 D cI cB cZ ac5 aq1 aq2 aq4 aq6 aq7 aq9 aq11 aq12 aq13 aq14 aq15 aq16 aq17 aq18 aq19 aq20 aq21 aq22 aq23 aq24 aq27 aq28 aq29 aq30 bq1 bq2 bq3 bq4 bq5 bq6 bq7 bq8 bq9 bq10 bq11 bq12 bq13 bq14 bq15 bq16 bq17 ga gb ar3 ar8 ar25 t b H (hP 39 _ rfl) c hc
      | 40, hc => exact gn_b40 D cI cB cZ ac5 aq1 aq2 aq4 aq6 aq7 aq9 aq11 aq12 aq13 aq14 aq15 aq16 aq17 aq18 aq19 aq20 aq21 aq22 aq23 aq24 aq27 aq28 aq29 aq30 bq1 bq2 bq3 bq4 bq5 bq6 bq7 bq8 bq9 bq10 bq11 bq12 bq13 bq14 bq15 bq16 bq17 ga gb ar3 ar8 ar25 t b H (hP 40 _ rfl) c hc
      | 41, hc => exact gn_b41 D cI cB cZ ac5 aq1 aq2 aq4 aq6 aq7 aq9 aq11 aq12 aq13 aq14 aq15 aq16 aq17 aq18 aq19 aq20 aq21 aq22 aq23 aq24 aq27 aq28 aq29 aq30 bq1 bq2 bq3 bq4 bq5 bq6 bq7 bq8 bq9 bq10 bq11 bq12 bq13 bq14 bq15 bq16 bq17 ga gb ar3 ar8 ar25 t b H (hP 41 _ rfl) c hc
      | 42, hc => exact gn_b42 D cI cB cZ ac5 aq1 aq2 aq4 aq6 aq7 aq9 aq11 aq12 aq13 aq14 aq15 aq16 aq17 aq18 aq19 aq20 aq21 aq22 aq23 aq24 aq27 aq28 aq29 aq30 bq1 bq2 bq3 bq4 bq5 bq6 bq7 bq8 bq9 bq10 bq11 bq12 bq13 bq14 bq15 bq16 bq17 ga gb ar3 ar8 ar25 t b H (hP 42 _ rfl) c hc
      | 43, hc => exact gn_b43 D cI cB cZ ac5 aq1 aq2 aq4 aq6 aq7 aq9 aq11 aq12 aq13 aq14 aq15 aq16 aq17 aq18 aq19 aq20 aq21 aq22 aq23 aq24 aq27 aq28 aq29 aq30 bq1 bq2 bq3 bq4 bq5 bq6 bq7 bq8 bq9 bq10 bq11 bq12 bq13 bq14 bq15 bq16 bq17 ga gb ar3 ar8 ar25 t b H (hP 43 _ rfl) c hc
      | 44, hc => exact gn_b44 D cI cB cZ ac5 aq1 aq2 aq4 aq6 aq7 aq9 aq11 aq12 aq13 aq14 aq15 aq16 aq17 aq18 aq19 aq20 aq21 aq22 aq23 aq24 aq27 aq28 aq29 aq30 bq1 bq2 bq3 bq4 bq5 bq6 bq7 bq8 bq9 bq10 bq11 bq12 bq13 bq14 bq15 bq16 bq17 ga gb ar3 ar8 ar25 t b H (hP 44 _ rfl) c hc
      | 45, hc => exact gn_b45 D cI cB cZ ac5 aq1 aq2 aq4 aq6 aq7 aq9 aq11 aq12 aq13 aq14 aq15 aq16 aq17 aq18 aq19 aq20 aq21 aq22 aq23 aq24 aq27 aq28 aq29 aq30 bq1 bq2 bq3 bq4 bq5 bq6 bq7 bq8 bq9 bq10 bq11 bq12 bq13 bq14 bq15 bq16 bq17 ga gb ar3 ar8 ar25 t b H (hP 45 _ rfl) c hc
      | 46, hc => exact gn_b46 D cI cB cZ ac5 aq1 aq2 aq4 aq6 aq7 aq9 aq11 aq12 aq13 aq14 aq15 aq16 aq17 aq18 aq19 aq20 aq21 aq22 aq23 aq24 aq27 aq28 aq29 aq30 bq1 bq2 bq3 bq4 bq5 bq6 bq7 bq8 bq9 bq10 bq11 bq12 bq13 bq14 bq15 bq16 bq17 ga gb ar3 ar8 ar25 t b H (hP 46 _ rfl) c hc
      | 47, hc => exact gn_b47 D cI cB cZ ac5 aq1 aq2 aq4 aq6 aq7 aq9 aq11 aq12 aq13 aq14 aq15 aq16 aq17 aq18 aq19 aq20 aq21 aq22 aq23 aq24 aq27 aq28 aq29 aq30 bq1 bq2 bq3 bq4 bq5 bq6 bq7 bq8 bq9 bq10 bq11 bq12 bq13 bq14 bq15 bq16 bq17 ga gb ar3 ar8 ar25 t b H (hP 47 _ rfl) c hc
      | 48, hc => exact gn_b48 D cI cB cZ ac5 aq1 aq2 aq4 aq6 aq7 aq9 aq11 aq12 aq13 aq14 aq15 aq16 aq17 aq18 aq19 aq20 aq21 aq22 aq23 aq24 aq27 aq28 aq29 aq30 bq1 bq2 bq3 bq4 bq5 bq6 bq7 bq8 bq9 bq10 bq11 bq12 bq13 bq14 bq15 bq16 bq17 ga gb ar3 ar8 ar25 t b H (hP 48 _ rfl) c hc
      | 49, hc => exact gn_b49 D cI cB cZ ac5 aq1 aq2 aq4 aq6 aq7 aq9 aq11 aq12 aq13 aq14 aq15 aq16 aq17 aq18 aq19 aq20 aq21 aq22 aq23 aq24 aq27 aq28 aq29 aq30 bq1 bq2 bq3 bq4 bq5 bq6 bq7 bq8 bq9 bq10 bq11 bq12 bq13 bq14 bq15 bq16 bq17 ga gb ar3 ar8 ar25 t b H (hP 49 _ rfl) c hc
      | 50, hc => exact gn_b50 D cI cB cZ ac5 aq1 aq2 aq4 aq6 aq7 aq9 aq11 aq12 aq13 aq14 aq15 aq16 aq17 aq18 aq19 aq20 aq21 aq22 aq23 aq24 aq27 aq28 aq29 aq30 bq1 bq2 bq3 bq4 bq5 bq6 bq7 bq8 bq9 bq10 bq11 bq12 bq13 bq14 bq15 bq16 bq17 ga gb ar3 ar8 ar25 t b H (hP 50 _ rfl) c hc
      | 51, hc => exact gn_b51 D cI cB cZ ac5 aq1 aq2 aq4 aq6 aq7 aq9 aq11 aq12 aq13 aq14 aq15 aq16 aq17 aq18 aq19 aq20 aq21 aq22 aq23 aq24 aq27 aq28 aq29 aq30 bq1 bq2 bq3 bq4 bq5 bq6 bq7 bq8 bq9 bq10 bq11 bq12 bq13 bq14 bq15 bq16 bq17 ga gb ar3 ar8 ar25 t b H (hP 51 _ rfl) c hc
      | 52, hc => exact gn_b52 D cI cB cZ ac5 aq1 aq2 aq4 aq6 aq7 aq9 aq11 aq12 aq13 aq14 aq15 aq16 aq17 aq18 aq19 aq20 aq21 aq22 aq23 aq24 aq27 aq28 aq29 aq30 bq1 bq2 bq3 bq4 bq5 bq6 bq7 bq8 bq9 bq10 bq11 bq12 bq13 bq14 bq15 bq16 bq17 ga gb ar3 ar8 ar25 t b H (hP 52 _ rfl) c hc
      | 53, hc => exact gn_b53 D cI cB cZ ac5 aq1 aq2 aq4 aq6 aq7 aq9 aq11 aq12 aq13 aq14 aq15 aq16 aq17 aq18 aq19 aq20 aq21 aq22 aq23 aq24 aq27 aq28 aq29 aq30 bq1 bq2 bq3 bq4 bq5 bq6 bq7 bq8 bq9 bq10 bq11 bq12 bq13 bq14 bq15 bq16 bq17 ga gb ar3 ar8 ar25 t b H (hP 53 _ rfl) c hc
      | 54, hc => exact gn_b54 D cI cB cZ ac5 aq1 aq2 aq4 aq6 aq7 aq9 aq11 aq12 aq13 aq14 aq15 aq16 aq17 aq18 aq19 aq20 aq21 aq22 aq23 aq24 aq27 aq28 aq29 aq30 bq1 bq2 bq3 bq4 bq5 bq6 bq7 bq8 bq9 bq10 bq11 bq12 bq13 bq14 bq15 bq16 bq17 ga gb ar3 ar8 ar25 t b H (hP 54 _ rfl) c hc
      | 55, hc => exact gn_b55 D cI cB cZ ac5 aq1 aq2 aq4 aq6 aq7 aq9 aq11 aq12 aq13 aq14 aq15 aq16 aq17 aq18 aq19 aq20 aq21 aq22 aq23 aq24 aq27 aq28 aq29 aq30 bq1 bq2 bq3 bq4 bq5 bq6 bq7 bq8 bq9 bq10 bq11 bq12 bq13 bq14 bq15 bq16 bq17 ga gb ar3 ar8 ar25 t b H (hP 55 _ rfl) c hc
      | k + 56, hc => exact absurd (gn_lt hc) (Nat.not_lt.mpr (Nat.le_add_left 56 k))
    intro k q hq
    rw [gn_W, List.getElem?_mapIdx] at hq
    cases hk : gn_S[k]? with
    | none => rw [hk] at hq; cases hq
    | some c => rw [hk] at hq; cases hq; exact key k c hk
  have hge : ∀ k : Nat, k < gn_n → s.heap.size ≤ ad k := by
    intro k hk
    subst had
    match k, hk with
    | 0, _ => exact hD.2 0 _ rfl
    | 1, _ => exact hD.2 1 _ rfl
    | 2, _ => exact hD.2 2 _ rfl
    | 3, _ => exact hD.2 9 _ rfl
    | 4, _ => exact hD.2 10 _ rfl
    | 5, _ => exact hD.2 11 _ rfl
    | 6, _ => exact hD.2 16 _ rfl
    | 7, _ => exact hD.2 17 _ rfl
    | 8, _ => exact hD.2 24 _ rfl
    | 9, _ => exact hD.2 30 _ rfl
    | 10, _ => exact hD.2 3 _ rfl
    | 11, _ => exact hD.2 4 _ rfl
    | 12, _ => exact hD.2 5 _ rfl
    | 13, _ => exact hD.2 6 _ rfl
    | 14, _ => exact hD.2 7 _ rfl
    | 15, _ => exact hD.2 8 _ rfl
    | 16, _ => exact hD.2 12 _ rfl
    | 17, _ => exact hD.2 13 _ rfl
    | 18, _ => exact hD.2 14 _ rfl
    | 19, _ => exact hD.2 15 _ rfl
    | 20, _ => exact hD.2 31 _ rfl
    | 21, _ => exact hD.2 32 _ rfl
    | 22, _ => exact hD.2 33 _ rfl
    | 23, _ => exact hD.2 37 _ rfl
    | 24, _ => exact hD.2 34 _ rfl
    | 25, _ => exact hD.2 35 _ rfl
    | 26, _ => exact hD.2 36 _ rfl
    | 27, _ => exact hD.2 18 _ rfl
    | 28, _ => exact hD.2 19 _ rfl
    | 29, _ => exact hD.2 20 _ rfl
    | 30, _ => exact hD.2 21 _ rfl
    | 31, _ => exact hD.2 22 _ rfl
    | 32, _ => exact hD.2 23 _ rfl
    | 33, _ => exact hD.2 25 _ rfl
    | 34, _ => exact hD.2 26 _ rfl
    | 35, _ => exact hD.2 27 _ rfl
    | 36, _ => exact hD.2 28 _ rfl
    | 37, _ => exact hD.2 29 _ rfl
    | 38, _ => exact hD.2 38 _ rfl
    | 39, _ => exact hD.2 39 _ rfl
    | 40, _ => exact hD.2 40 _ rfl
    | 41, _ => exact hD.2 41 _ rfl
    | 42, _ => exact hD.2 42 _ rfl
    | 43, _ => exact hD.2 43 _ rfl
    | 44, _ => exact hD.2 44 _ rfl
    | 45, _ => exact hD.2 45 _ rfl
    | 46, _ => exact hD.2 46 _ rfl
    | 47, _ => exact hD.2 47 _ rfl
    | 48, _ => exact hD.2 48 _ rfl
    | 49, _ => exact hD.2 49 _ rfl
    | 50, _ => exact hD.2 50 _ rfl
    | 51, _ => exact hD.2 51 _ rfl
    | 52, _ => exact hD.2 52 _ rfl
    | 53, _ => exact hD.2 53 _ rfl
    | 54, _ => exact hD.2 54 _ rfl
    | 55, _ => exact hD.2 55 _ rfl
    | k + 56, hk => exact absurd hk (Nat.not_lt.mpr (Nat.le_add_left 56 k))
  have hap : gn_ap ad := by
    intro i j hi hj e
    have at_ : ∀ k : Nat, k < gn_n → ∃ q : Nat × va_E, ([(ga, .inr (3, [.ref aq1, .ref aq6, .ref aq11, .ref aq18, .ref aq24, .ref aq27, .ref aq28, .ref aq29, .ref aq30, .int 0, .int 0, .long 0, .long 1])), (aq1, .inr (2, [.ref aq2, .ref aq4, .int 40])), (aq2, .inl (ac5, 6, .inr (.inr (.inr (.inr (fun i => if i < 6 then some (ar3 i) else none)))))), ((ar3 0), .inl (cI, 40, .inl (fun _ => 0))), ((ar3 1), .inl (cI, 40, .inl (fun _ => 0))), ((ar3 2), .inl (cI, 40, .inl (fun _ => 0))), ((ar3 3), .inl (cI, 40, .inl (fun _ => 0))), ((ar3 4), .inl (cI, 40, .inl (fun _ => 0))), ((ar3 5), .inl (cI, 40, .inl (fun _ => 0))), (aq4, .inl (cI, 6, .inl (gk_fl 6 (-1) (fun _ => 0)))), (aq6, .inr (2, [.ref aq7, .ref aq9, .int 60])), (aq7, .inl (ac5, 4, .inr (.inr (.inr (.inr (fun i => if i < 4 then some (ar8 i) else none)))))), ((ar8 0), .inl (cI, 60, .inl (fun _ => 0))), ((ar8 1), .inl (cI, 60, .inl (fun _ => 0))), ((ar8 2), .inl (cI, 60, .inl (fun _ => 0))), ((ar8 3), .inl (cI, 60, .inl (fun _ => 0))), (aq9, .inl (cI, 4, .inl (gk_fl 4 (-1) (fun _ => 0)))), (aq11, .inr (0, [.ref aq12, .ref aq13, .ref aq14, .ref aq15, .ref aq16, .ref aq17, .int 0, .int 0, .int 0, .int (-9), .int 0])), (aq12, .inl (cI, 7, .inl (fun _ => 0))), (aq13, .inl (cI, 7, .inl (fun _ => 0))), (aq14, .inl (cI, 7, .inl (fun _ => 0))), (aq15, .inl (cI, 7, .inl (fun _ => 0))), (aq16, .inl (cI, 6, .inl (fun _ => 0))), (aq17, .inl (cI, 40, .inl (fun _ => 0))), (aq18, .inr (1, [.ref aq19, .ref aq20, .ref aq21, .ref aq22, .ref aq23, .int 0, .int 0, .int 0])), (aq19, .inl (cI, 7, .inl (fun _ => 0))), (aq20, .inl (cI, 128, .inl (fun _ => 0))), (aq21, .inl (cI, 128, .inl (fun _ => 0))), (aq22, .inl (cI, 128, .inl (fun _ => 0))), (aq23, .inl (cI, 896, .inl (fun _ => 0))), (aq24, .inl (ac5, 3, .inr (.inr (.inr (.inr (fun i => if i < 3 then some (ar25 i) else none)))))), ((ar25 0), .inl (cI, 40, .inl (fun _ => 0))), ((ar25 1), .inl (cI, 40, .inl (fun _ => 0))), ((ar25 2), .inl (cI, 40, .inl (fun _ => 0))), (aq28, .inl (cI, 7, .inl (fun _ => 0))), (aq29, .inl (cI, 7, .inl (fun _ => 0))), (aq30, .inl (cI, 6, .inl (fun _ => 0))), (aq27, .inl (cI, 3, .inl (gk_fl 3 (-1) (fun _ => 0)))), (gb, .inr (4, [.int 0, .ref bq1, .int 0, .long 0, .long 1, .ref bq2, .ref bq3, .ref bq4, .ref bq5, .ref bq6, .int 0, .ref bq7, .ref bq8, .ref bq9, .int 0, .ref bq10, .int 0, .ref bq11, .ref bq12, .ref bq13, .ref bq14, .ref bq15, .ref bq16, .ref bq17])), (bq1, .inl (cI, 6, .inl (fun _ => 0))), (bq2, .inl (cI, 6, .inl (upd (upd (upd (upd (upd (upd (fun _ => 0) (0 : Int32).toNatClampNeg (-1)) (1 : Int32).toNatClampNeg (-1)) (2 : Int32).toNatClampNeg (-1)) (3 : Int32).toNatClampNeg (-1)) (4 : Int32).toNatClampNeg (-1)) (5 : Int32).toNatClampNeg (-1)))), (bq3, .inl (cI, 240, .inl (fun _ => 0))), (bq4, .inl (cI, 4, .inl (upd (upd (upd (upd (fun _ => 0) (0 : Int32).toNatClampNeg (-1)) (1 : Int32).toNatClampNeg (-1)) (2 : Int32).toNatClampNeg (-1)) (3 : Int32).toNatClampNeg (-1)))), (bq5, .inl (cB, 240, .inl (fun _ => 0))), (bq6, .inl (cI, 40, .inl (fun _ => 0))), (bq7, .inl (cI, 14, .inl (fun _ => 0))), (bq8, .inl (cI, 14, .inl (fun _ => 0))), (bq9, .inl (cI, 14, .inl (fun _ => 0))), (bq10, .inl (cI, 410, .inl (upd (fun _ => 0) (8 : Int32).toNatClampNeg (-9)))), (bq11, .inl (cI, 1230, .inl (fun _ => 0))), (bq12, .inl (cI, 3, .inl (upd (upd (upd (fun _ => 0) (0 : Int32).toNatClampNeg (-1)) (1 : Int32).toNatClampNeg (-1)) (2 : Int32).toNatClampNeg (-1)))), (bq13, .inl (cI, 7, .inl (fun _ => 0))), (bq14, .inl (cI, 896, .inl (fun _ => 0))), (bq15, .inl (cI, 1024, .inl (fun _ => 0))), (bq16, .inl (cI, 7, .inl (fun _ => 0))), (bq17, .inl (cZ, 1024, .inl (fun _ => 0)))] : va_W)[gn_pi k]? = some q ∧ q.1 = ad k := by
      intro k hk
      subst had
      match k, hk with
      | 0, _ => exact ⟨_, rfl, rfl⟩
      | 1, _ => exact ⟨_, rfl, rfl⟩
      | 2, _ => exact ⟨_, rfl, rfl⟩
      | 3, _ => exact ⟨_, rfl, rfl⟩
      | 4, _ => exact ⟨_, rfl, rfl⟩
      | 5, _ => exact ⟨_, rfl, rfl⟩
      | 6, _ => exact ⟨_, rfl, rfl⟩
      | 7, _ => exact ⟨_, rfl, rfl⟩
      | 8, _ => exact ⟨_, rfl, rfl⟩
      | 9, _ => exact ⟨_, rfl, rfl⟩
      | 10, _ => exact ⟨_, rfl, rfl⟩
      | 11, _ => exact ⟨_, rfl, rfl⟩
      | 12, _ => exact ⟨_, rfl, rfl⟩
      | 13, _ => exact ⟨_, rfl, rfl⟩
      | 14, _ => exact ⟨_, rfl, rfl⟩
      | 15, _ => exact ⟨_, rfl, rfl⟩
      | 16, _ => exact ⟨_, rfl, rfl⟩
      | 17, _ => exact ⟨_, rfl, rfl⟩
      | 18, _ => exact ⟨_, rfl, rfl⟩
      | 19, _ => exact ⟨_, rfl, rfl⟩
      | 20, _ => exact ⟨_, rfl, rfl⟩
      | 21, _ => exact ⟨_, rfl, rfl⟩
      | 22, _ => exact ⟨_, rfl, rfl⟩
      | 23, _ => exact ⟨_, rfl, rfl⟩
      | 24, _ => exact ⟨_, rfl, rfl⟩
      | 25, _ => exact ⟨_, rfl, rfl⟩
      | 26, _ => exact ⟨_, rfl, rfl⟩
      | 27, _ => exact ⟨_, rfl, rfl⟩
      | 28, _ => exact ⟨_, rfl, rfl⟩
      | 29, _ => exact ⟨_, rfl, rfl⟩
      | 30, _ => exact ⟨_, rfl, rfl⟩
      | 31, _ => exact ⟨_, rfl, rfl⟩
      | 32, _ => exact ⟨_, rfl, rfl⟩
      | 33, _ => exact ⟨_, rfl, rfl⟩
      | 34, _ => exact ⟨_, rfl, rfl⟩
      | 35, _ => exact ⟨_, rfl, rfl⟩
      | 36, _ => exact ⟨_, rfl, rfl⟩
      | 37, _ => exact ⟨_, rfl, rfl⟩
      | 38, _ => exact ⟨_, rfl, rfl⟩
      | 39, _ => exact ⟨_, rfl, rfl⟩
      | 40, _ => exact ⟨_, rfl, rfl⟩
      | 41, _ => exact ⟨_, rfl, rfl⟩
      | 42, _ => exact ⟨_, rfl, rfl⟩
      | 43, _ => exact ⟨_, rfl, rfl⟩
      | 44, _ => exact ⟨_, rfl, rfl⟩
      | 45, _ => exact ⟨_, rfl, rfl⟩
      | 46, _ => exact ⟨_, rfl, rfl⟩
      | 47, _ => exact ⟨_, rfl, rfl⟩
      | 48, _ => exact ⟨_, rfl, rfl⟩
      | 49, _ => exact ⟨_, rfl, rfl⟩
      | 50, _ => exact ⟨_, rfl, rfl⟩
      | 51, _ => exact ⟨_, rfl, rfl⟩
      | 52, _ => exact ⟨_, rfl, rfl⟩
      | 53, _ => exact ⟨_, rfl, rfl⟩
      | 54, _ => exact ⟨_, rfl, rfl⟩
      | 55, _ => exact ⟨_, rfl, rfl⟩
      | k + 56, hk => exact absurd hk (Nat.not_lt.mpr (Nat.le_add_left 56 k))
    obtain ⟨p1, g1, e1⟩ := at_ i hi
    obtain ⟨p2, g2, e2⟩ := at_ j hj
    exact gn_pi_inj i hi j hj (hD.1 _ _ p1 p2 g1 g2 (e1.trans (e.trans e2.symm)))
  have hnA : ∀ q : Nat, q < s.heap.size → ¬ gn_A ad q := fun q hq h => by
    obtain ⟨k, hk, e⟩ := h
    have := hge k hk
    omega
  have hsub : ∀ q, gn_A ad q → s.heap.size ≤ q := fun q h => by
    obtain ⟨k, hk, e⟩ := h
    rw [e]
    exact hge k hk
  have ht100 : ad 100 = t := by rw [had]; rfl
  have ht101 : ad 101 = b := by rw [had]; rfl
  have hcy0 : cy 0 = cI := by rw [hcy]; rfl
  have hcy1 : cy 1 = cB := by rw [hcy]; rfl
  have hcy2 : cy 2 = cZ := by rw [hcy]; rfl
  have hcy3 : cy 3 = ac5 := by rw [hcy]; rfl
  have hKall : va_K D vwCl (gn_tys cy) s := ⟨hK.1, fun k q h => by
    rw [gn_tys, hcy0, hcy1, hcy2, hcy3] at h
    match k, h with
    | 0, h => cases h; exact hI
    | 1, h => cases h; exact hBy
    | 2, h => cases h; exact hZb
    | 3, h => cases h; exact hac5.2 0 _ rfl⟩
  have hVV : gn_V (some (L, xs)) D cy ad s := ⟨hNw, hKall, by rw [ht100]; exact hZ0.narrow hsub, by rw [ht100]; exact hT0.narrow hsub, hap, by
    show va_X (ad 101) L xs s s.heap ∧ ad 101 < s.heap.size ∧ ¬ gn_A ad (ad 101)
    rw [ht101]
    exact ⟨hX, hbl, hnA b hbl⟩⟩
  refine va_forget (fun q hq => hS.2.2 q hq) ?_
  have hSS : va_S (gn_A ad) s.heap H [] := ⟨hS.1, fun q h1 _ => hS.2.1 q h1 (Nat.not_le.mpr h1), fun q hq => by cases hq⟩
  obtain ⟨n, v, hv, hv1⟩ := HP
  have hgo := c_law hv
  have hLL : gn_L ls 4 ad [some (.ref 101), some (.ref 0), some (.ref 38), none] := ⟨hl.1, hl.2.1, fun i w hi => by
    match i, hi with
    | 0, hi => cases hi; show ls[0]? = some (.val (.ref (ad 101))); rw [ht101]; exact lv_at hl 2 rfl
    | 1, hi => cases hi; have e0 : ad 0 = ga := by rw [had]; rfl
               show ls[1]? = some (.val (.ref (ad 0))); rw [e0]; exact lv_at hl 1 rfl
    | 2, hi => cases hi; have e0 : ad 38 = gb := by rw [had]; rfl
               show ls[2]? = some (.val (.ref (ad 38))); rw [e0]; exact lv_at hl 0 rfl
    | 3, hi => cases hi
    | i + 4, hi => simp at hi⟩
  rw [hv1] at hgo
  refine hgo.2 p l e room_1 s m _ below meth c _ _ _ D cy ad H [] ls ⟨hx, hb, hml, hown, hts, Nat.le_of_ble_eq_true rfl, Nat.le_of_ble_eq_true rfl, Nat.le_of_ble_eq_true rfl, Nat.le_of_ble_eq_true rfl⟩ hVV hPW hSS hLL (fun pc' H' locs' ls' hret hP' hS' => ?_)
  refine va_forget (fun q hq => hsub _ (hS'.2.2 q hq)) ?_
  refine W.widen (k := 600000) (n := 7302250) (Nat.le_of_ble_eq_true rfl) (Nat.le_of_ble_eq_true rfl) ?_
  exact lw_ret hx hb hr hlocks hret
