set_option maxRecDepth 20000 in
theorem iX2_mean_X2 : ∀ w ∈ wsX20, w ∈ wsX2_mean := by decide +kernel
set_option maxHeartbeats 4000000 in
set_option maxRecDepth 100000 in
theorem c_X2_mean (l : Launch) (G : va_G) (cI : ClassId) (gp sh r5 r6 aa ta ts t5 : Nat) (nA nH nP nM : Int32)  (sz : Nat) : MetD lw_cs l yX2_mean wsX2_mean ({ frames := 0, cells := 0, slots := 0, locals := 0 }) (va_Pc [.ref gp] (gpre G [(cI, .int)] [(gp, .inr (2, [.ref sh, .ref r5, .ref r6, .ref aa, .ref ta, .int nA, .int nH, .int nP, .int nM, .ref ts, .ref t5]))] sz)) (va_Qd (fun (r : UInt64) (_ : Unit) => mnOk r nA nH) (fun (_ : Unit) t => gat G [(cI, .int)] (va_A [(gp, .inr (2, [.ref sh, .ref r5, .ref r6, .ref aa, .ref ta, .int nA, .int nH, .int nP, .int nM, .ref ts, .ref t5]))] sz) [(gp, .inr (2, [.ref sh, .ref r5, .ref r6, .ref aa, .ref ta, .int nA, .int nH, .int nP, .int nM, .ref ts, .ref t5]))] t) (va_A [(gp, .inr (2, [.ref sh, .ref r5, .ref r6, .ref aa, .ref ta, .int nA, .int nH, .int nP, .int nM, .ref ts, .ref t5]))] sz)) 0 0 (va_A [(gp, .inr (2, [.ref sh, .ref r5, .ref r6, .ref aa, .ref ta, .int nA, .int nH, .int nP, .int nM, .ref ts, .ref t5]))] sz) := by
  refine MetD.ofW (cc := cX2_mean) (maxL := 1) (ret := (some .double)) (by decide) rfl ?_
  intro p e s m args below meth c s₁ B hml hv hd0
  obtain ⟨rfl, hsz, hP, hK, hD0⟩ := hv
  have hx := B.exec
  have hb := B.bytes
  have hr := B.returns
  have hts := atoms_spec (ws := wsX2_mean) B.pre
  have hown : s.vm.findClass RX2 = some m.cls := findClass_of_methodNamed B.named
  have hlocks := B.notSynchronized
  have hts := dr_words hts s.drawn
  subst hsz
  have hD := hD0.self (sz := s.heap.size)
  clear hD0
  generalize hAe : va_A [(gp, .inr (2, [.ref sh, .ref r5, .ref r6, .ref aa, .ref ta, .int nA, .int nH, .int nP, .int nM, .ref ts, .ref t5]))] s.heap.size = A at hD ⊢
  have hA : ∀ q : Nat, s.heap.size ≤ q → A q := fun q h => by rw [← hAe]; exact Or.inr h
  have hS : va_S A s.heap s.heap [] := va_S.rf
  have hP : va_P G vwCl [(gp, .inr (2, [.ref sh, .ref r5, .ref r6, .ref aa, .ref ta, .int nA, .int nH, .int nP, .int nM, .ref ts, .ref t5]))] s.heap := hP
  have hl := lv_entry ([.ref gp]) (n := 1) (Nat.le_of_ble_eq_true rfl)
  rw [lg_entry_eq]
  generalize (lg_sl ([.ref gp]) ++ List.replicate (1 - (lg_sl ([.ref gp])).length) Slot.unset).toArray = ls at hl ⊢
  have hl : lv_has ls 1 [(0, .ref gp)] := hl
  refine lv_aload_n hx hb dX2_mean_0 rfl (lv_at hl 0 rfl) ?_
  refine va_get (D := G) (ci := 2) (v := .int nA) (C := RX2) (T := TX2) (N := 11) hx hb hts iX2_mean_X2 hown hK hP 0 rfl rfl 5 (by decide) (hts (.fieldLink RX2 35 "GhostPantry" "askedInAll" "I") (by decide +kernel)) (fun _ h9 => h9) rfl dX2_mean_1 ?_
  refine lv_if_ne (tgt := 9) hx hb dX2_mean_4 (by decide) (fun c_1 => ?_) (fun c_1 => ?_)
  · refine lv_aload_n hx hb dX2_mean_9 rfl (lv_at hl 0 rfl) ?_
    refine va_get (D := G) (ci := 2) (v := .int nH) (C := RX2) (T := TX2) (N := 11) hx hb hts iX2_mean_X2 hown hK hP 0 rfl rfl 6 (by decide) (hts (.fieldLink RX2 39 "GhostPantry" "thereInAll" "I") (by decide +kernel)) (fun _ h9 => h9) rfl dX2_mean_10 ?_
    refine lv_i2d hx hb dX2_mean_13 ?_
    refine lv_aload_n hx hb dX2_mean_14 rfl (lv_at hl 0 rfl) ?_
    refine va_get (D := G) (ci := 2) (v := .int nA) (C := RX2) (T := TX2) (N := 11) hx hb hts iX2_mean_X2 hown hK hP 0 rfl rfl 5 (by decide) (hts (.fieldLink RX2 35 "GhostPantry" "askedInAll" "I") (by decide +kernel)) (fun _ h9 => h9) rfl dX2_mean_15 ?_
    refine lv_i2d hx hb dX2_mean_18 ?_
    refine lv_ddiv_any hd0 lw_bits hx hb dX2_mean_19 (fun r9 d1 hal hd0 => ?_)
    have hP9 := hP.sub (ws' := [(gp, .inr (2, [.ref sh, .ref r5, .ref r6, .ref aa, .ref ta, .int nA, .int nH, .int nP, .int nM, .ref ts, .ref t5]))]) [0] rfl
    have hD9 := hD.sub (ws' := [(gp, .inr (2, [.ref sh, .ref r5, .ref r6, .ref aa, .ref ta, .int nA, .int nH, .int nP, .int nM, .ref ts, .ref t5]))]) [0] (by decide) rfl
    refine W.endD hd0 ?_
    exact W.dret (v := r9) hx hb hr (fun t ht hW => ⟨⟨r9, (), rfl, (mn_1 (by assumption) hal), g_at hP9 hK hD9 ht hW⟩, hS.F ht⟩) hS.2.2 dX2_mean_20
  · refine lv_dconst0 hx hb dX2_mean_7 ?_
    have hP9 := hP.sub (ws' := [(gp, .inr (2, [.ref sh, .ref r5, .ref r6, .ref aa, .ref ta, .int nA, .int nH, .int nP, .int nM, .ref ts, .ref t5]))]) [0] rfl
    have hD9 := hD.sub (ws' := [(gp, .inr (2, [.ref sh, .ref r5, .ref r6, .ref aa, .ref ta, .int nA, .int nH, .int nP, .int nM, .ref ts, .ref t5]))]) [0] (by decide) rfl
    refine W.endD hd0 ?_
    exact W.dret (v := FP.dconst0) hx hb hr (fun t ht hW => ⟨⟨FP.dconst0, (), rfl, (mn_0 (by assumption)), g_at hP9 hK hD9 ht hW⟩, hS.F ht⟩) hS.2.2 dX2_mean_8
set_option maxRecDepth 20000 in
theorem iX3_cook_X3 : ∀ w ∈ wsX30, w ∈ wsX3_cook := by decide +kernel
set_option maxHeartbeats 4000000 in
set_option maxRecDepth 100000 in
theorem c_X3_cook (l : Launch) (G : va_G) (cI : ClassId) (sm u1 u2 u3 u4 u5 u6 : Nat) (v1 v2 v3 v5 v6 : Nat → Int32) (rc bo ck : Nat) (nA nH nP nM : Int32) (v4 : Nat → Int32) (M : List Int32) (hRm : Rw v4 M) (L1 L2 L3 L4 P : List Int32) (hn : Num rc bo (L1, L2, L3, L4)) (hsq : SQ v1 v2 ck (L1, L2, L3, L4)) (hsp : SP v3 ck P) (hck : ck < 2 ^ 28) (h3 : P.length ≤ rc) (hm1 : M.length ≤ 30) (hm2 : allOk M) (sz : Nat) : Met l yX3_cook wsX3_cook ({ frames := 3, cells := 0, slots := 0, locals := 75 }) (va_Pc [.ref sm] (gpre G [(cI, .int)] [(sm, .inr (3, [.int (nI rc), .int (nI bo), .ref u1, .ref u2, .ref u3, .ref u4, .ref u5, .ref u6, .int (nI ck), .int nA, .int nH, .int nP, .int nM])), (u1, .inl (cI, 30, .inl v1)), (u2, .inl (cI, 30, .inl v2)), (u3, .inl (cI, 30, .inl v3)), (u5, .inl (cI, 30, .inl v5)), (u6, .inl (cI, 30, .inl v6)), (u4, .inl (cI, M.length, .inl v4))] sz)) (va_Qi (fun (z : Int32) (u : St) => z = nI (foldQ rc M ((L1, L2, L3, L4), bo, 0)).2.2 ∧ u = foldS rc M ((L1, L2, L3, L4), P, bo, nA, nH, nP, nM, v5, v6)) (fun (u : St) t => ∃ (v1' v2' v3' : Nat → Int32) (ck' : Nat), SQ v1' v2' ck' u.1 ∧ SP v3' ck' u.2.1 ∧ ck ≤ ck' ∧ ck' ≤ ck + 90 ∧ gat G [(cI, .int)] (va_A [(sm, .inr (3, [.int (nI rc), .int (nI bo), .ref u1, .ref u2, .ref u3, .ref u4, .ref u5, .ref u6, .int (nI ck), .int nA, .int nH, .int nP, .int nM])), (u1, .inl (cI, 30, .inl v1)), (u2, .inl (cI, 30, .inl v2)), (u3, .inl (cI, 30, .inl v3)), (u5, .inl (cI, 30, .inl v5)), (u6, .inl (cI, 30, .inl v6)), (u4, .inl (cI, M.length, .inl v4))] sz) [(sm, .inr (3, [.int (nI rc), .int (nI u.2.2.1), .ref u1, .ref u2, .ref u3, .ref u4, .ref u5, .ref u6, .int (nI ck'), .int u.2.2.2.1, .int u.2.2.2.2.1, .int u.2.2.2.2.2.1, .int u.2.2.2.2.2.2.1])), (u1, .inl (cI, 30, .inl v1')), (u2, .inl (cI, 30, .inl v2')), (u3, .inl (cI, 30, .inl v3')), (u5, .inl (cI, 30, .inl u.2.2.2.2.2.2.2.1)), (u6, .inl (cI, 30, .inl u.2.2.2.2.2.2.2.2)), (u4, .inl (cI, M.length, .inl v4))] t) (va_A [(sm, .inr (3, [.int (nI rc), .int (nI bo), .ref u1, .ref u2, .ref u3, .ref u4, .ref u5, .ref u6, .int (nI ck), .int nA, .int nH, .int nP, .int nM])), (u1, .inl (cI, 30, .inl v1)), (u2, .inl (cI, 30, .inl v2)), (u3, .inl (cI, 30, .inl v3)), (u5, .inl (cI, 30, .inl v5)), (u6, .inl (cI, 30, .inl v6)), (u4, .inl (cI, M.length, .inl v4))] sz)) 0 0 (va_A [(sm, .inr (3, [.int (nI rc), .int (nI bo), .ref u1, .ref u2, .ref u3, .ref u4, .ref u5, .ref u6, .int (nI ck), .int nA, .int nH, .int nP, .int nM])), (u1, .inl (cI, 30, .inl v1)), (u2, .inl (cI, 30, .inl v2)), (u3, .inl (cI, 30, .inl v3)), (u5, .inl (cI, 30, .inl v5)), (u6, .inl (cI, 30, .inl v6)), (u4, .inl (cI, M.length, .inl v4))] sz) := by
  refine Met.ofW (cc := cX3_cook) (maxL := 6) (ret := (some .int)) (by decide) rfl ?_
  intro p e s m args below meth c s₁ B hml hv
  obtain ⟨rfl, hsz, hP, hK, hD0⟩ := hv
  have hx := B.exec
  have hb := B.bytes
  have hr := B.returns
  have hts := atoms_spec (ws := wsX3_cook) B.pre
  have hown : s.vm.findClass RX3 = some m.cls := findClass_of_methodNamed B.named
  have hlocks := B.notSynchronized
  subst hsz
  have hD := hD0.self (sz := s.heap.size)
  clear hD0
  generalize hAe : va_A [(sm, .inr (3, [.int (nI rc), .int (nI bo), .ref u1, .ref u2, .ref u3, .ref u4, .ref u5, .ref u6, .int (nI ck), .int nA, .int nH, .int nP, .int nM])), (u1, .inl (cI, 30, .inl v1)), (u2, .inl (cI, 30, .inl v2)), (u3, .inl (cI, 30, .inl v3)), (u5, .inl (cI, 30, .inl v5)), (u6, .inl (cI, 30, .inl v6)), (u4, .inl (cI, M.length, .inl v4))] s.heap.size = A at hD ⊢
  have hA : ∀ q : Nat, s.heap.size ≤ q → A q := fun q h => by rw [← hAe]; exact Or.inr h
  have hS : va_S A s.heap s.heap [] := va_S.rf
  have hP : va_P G vwCl [(sm, .inr (3, [.int (nI rc), .int (nI bo), .ref u1, .ref u2, .ref u3, .ref u4, .ref u5, .ref u6, .int (nI ck), .int nA, .int nH, .int nP, .int nM])), (u1, .inl (cI, 30, .inl v1)), (u2, .inl (cI, 30, .inl v2)), (u3, .inl (cI, 30, .inl v3)), (u5, .inl (cI, 30, .inl v5)), (u6, .inl (cI, 30, .inl v6)), (u4, .inl (cI, M.length, .inl v4))] s.heap := hP
  have hl := lv_entry ([.ref sm]) (n := 6) (Nat.le_of_ble_eq_true rfl)
  rw [lg_entry_eq]
  generalize (lg_sl ([.ref sm]) ++ List.replicate (6 - (lg_sl ([.ref sm])).length) Slot.unset).toArray = ls at hl ⊢
  have hl : lv_has ls 6 [(0, .ref sm)] := hl
  obtain ⟨hn1, hn2, hn3, hn4, hn5, hn6⟩ : 1 ≤ rc ∧ rc ≤ 12 ∧ bo ≤ rc ∧ L1.length + L2.length ≤ rc ∧ L1.length + L3.length ≤ rc ∧ L1.length + L2.length + L3.length + L4.length ≤ 2 * rc := id hn
  refine lv_aload_n hx hb dX3_cook_0 rfl (lv_at hl 0 rfl) ?_
  refine va_get (D := G) (ci := 3) (v := .int nH) (C := RX3) (T := TX3) (N := 13) hx hb hts iX3_cook_X3 hown hK hP 0 rfl rfl 10 (by decide) (hts (.fieldLink RX3 47 "GhostPantryLaw$Sim" "there" "I") (by decide +kernel)) (fun _ h9 => h9) rfl dX3_cook_1 ?_
  refine lv_istore_n (lv' := [(1, .int nH), (0, .ref sm)]) hx hb dX3_cook_4 rfl hl (by decide) rfl (fun ls hl => ?_)
  refine lv_aload_n hx hb dX3_cook_5 rfl (lv_at hl 1 rfl) ?_
  refine va_get (D := G) (ci := 3) (v := .ref u4) (C := RX3) (T := TX3) (N := 13) hx hb hts iX3_cook_X3 hown hK hP 0 rfl rfl 5 (by decide) (hts (.fieldLink RX3 23 "GhostPantryLaw$Sim" "menu" "[I") (by decide +kernel)) (fun _ h9 => h9) rfl dX3_cook_6 ?_
  refine lv_astore_n (lv' := [(2, .ref u4), (1, .int nH), (0, .ref sm)]) hx hb dX3_cook_9 rfl hl (by decide) rfl (fun ls hl => ?_)
  refine lv_aload_n hx hb dX3_cook_10 rfl (lv_at hl 0 rfl) ?_
  refine va_alen hx hb hK hP 6 0 rfl rfl (v := (nI M.length)) rfl dX3_cook_11 ?_
  refine lv_istore_n (lv' := [(3, .int (nI M.length)), (2, .ref u4), (1, .int nH), (0, .ref sm)]) hx hb dX3_cook_12 rfl hl (by decide) rfl (fun ls hl => ?_)
  refine lv_iconst (v := (nI 0)) hx hb dX3_cook_13 (by decide +kernel) ?_
  refine lv_istore (lv' := [(4, .int (nI 0)), (3, .int (nI M.length)), (2, .ref u4), (1, .int nH), (0, .ref sm)]) hx hb dX3_cook_14 hl (by decide) rfl (fun ls hl => ?_)
  refine g_heap (fun H_1 lc_2 eH9 eL9 => ?_)
  have hP1 : va_P G vwCl [(sm, .inr (3, [.int (nI rc), .int (nI bo), .ref u1, .ref u2, .ref u3, .ref u4, .ref u5, .ref u6, .int (nI ck), .int nA, .int nH, .int nP, .int nM])), (u1, .inl (cI, 30, .inl v1)), (u2, .inl (cI, 30, .inl v2)), (u3, .inl (cI, 30, .inl v3)), (u5, .inl (cI, 30, .inl v5)), (u6, .inl (cI, 30, .inl v6)), (u4, .inl (cI, M.length, .inl v4))] H_1 := by rw [eH9]; exact hP
  have hS1 : va_S A s.heap H_1 lc_2 := by rw [eH9, eL9]; exact hS
  clear hP hS eH9 eL9
  have hP := hP1
  have hS := hS1
  clear hP1 hS1
  obtain ⟨u, e_u⟩ : ∃ z : St, z = ((L1, L2, L3, L4), P, bo, nA, nH, nP, nM, v5, v6) := ⟨_, rfl⟩
  obtain ⟨y1, e_y1⟩ : ∃ z : Nat → Int32, z = v1 := ⟨_, rfl⟩
  obtain ⟨y2, e_y2⟩ : ∃ z : Nat → Int32, z = v2 := ⟨_, rfl⟩
  obtain ⟨y3, e_y3⟩ : ∃ z : Nat → Int32, z = v3 := ⟨_, rfl⟩
  obtain ⟨kc, e_kc⟩ : ∃ z : Nat, z = ck := ⟨_, rfl⟩
  have hP1 : va_P G vwCl [(sm, .inr (3, [.int (nI rc), .int (nI u.2.2.1), .ref u1, .ref u2, .ref u3, .ref u4, .ref u5, .ref u6, .int (nI kc), .int u.2.2.2.1, .int u.2.2.2.2.1, .int u.2.2.2.2.2.1, .int u.2.2.2.2.2.2.1])), (u1, .inl (cI, 30, .inl y1)), (u2, .inl (cI, 30, .inl y2)), (u3, .inl (cI, 30, .inl y3)), (u5, .inl (cI, 30, .inl u.2.2.2.2.2.2.2.1)), (u6, .inl (cI, 30, .inl u.2.2.2.2.2.2.2.2)), (u4, .inl (cI, M.length, .inl v4))] H_1 := by subst e_u e_y1 e_y2 e_y3 e_kc; exact hP
  have hD1 : va_D A [(sm, .inr (3, [.int (nI rc), .int (nI u.2.2.1), .ref u1, .ref u2, .ref u3, .ref u4, .ref u5, .ref u6, .int (nI kc), .int u.2.2.2.1, .int u.2.2.2.2.1, .int u.2.2.2.2.2.1, .int u.2.2.2.2.2.2.1])), (u1, .inl (cI, 30, .inl y1)), (u2, .inl (cI, 30, .inl y2)), (u3, .inl (cI, 30, .inl y3)), (u5, .inl (cI, 30, .inl u.2.2.2.2.2.2.2.1)), (u6, .inl (cI, 30, .inl u.2.2.2.2.2.2.2.2)), (u4, .inl (cI, M.length, .inl v4))] := by subst e_u e_y1 e_y2 e_y3 e_kc; exact hD
  have hsqu : SQ y1 y2 kc u.1 := by subst e_u e_y1 e_y2 e_y3 e_kc; exact hsq
  have hspu : SP y3 kc u.2.1 := by subst e_u e_y1 e_y2 e_y3 e_kc; exact hsp
  have hu0 : u = ((L1, L2, L3, L4), P, bo, nA, nH, nP, nM, v5, v6) := by subst e_u e_y1 e_y2 e_y3 e_kc; exact rfl
  clear hP hD
  have hP := hP1
  have hD := hD1
  clear hP1 hD1
  have hl0 := lv_sub (l' := [(4, .int (nI 0)), (0, .ref sm), (1, .int nH), (2, .ref u4), (3, .int (nI M.length))]) hl [0, 4, 3, 2, 1] rfl
  clear hl
  have pk0 : u = foldS rc (M.take 0) ((L1, L2, L3, L4), P, bo, nA, nH, nP, nM, v5, v6) ∧ SQ y1 y2 kc u.1 ∧ SP y3 kc u.2.1 ∧ ck ≤ kc ∧ kc ≤ ck + 3 * 0 ∧ 0 ≤ M.length ∧ va_P G vwCl [(sm, .inr (3, [.int (nI rc), .int (nI u.2.2.1), .ref u1, .ref u2, .ref u3, .ref u4, .ref u5, .ref u6, .int (nI kc), .int u.2.2.2.1, .int u.2.2.2.2.1, .int u.2.2.2.2.2.1, .int u.2.2.2.2.2.2.1])), (u1, .inl (cI, 30, .inl y1)), (u2, .inl (cI, 30, .inl y2)), (u3, .inl (cI, 30, .inl y3)), (u5, .inl (cI, 30, .inl u.2.2.2.2.2.2.2.1)), (u6, .inl (cI, 30, .inl u.2.2.2.2.2.2.2.2)), (u4, .inl (cI, M.length, .inl v4))] H_1 ∧ va_D A [(sm, .inr (3, [.int (nI rc), .int (nI u.2.2.1), .ref u1, .ref u2, .ref u3, .ref u4, .ref u5, .ref u6, .int (nI kc), .int u.2.2.2.1, .int u.2.2.2.2.1, .int u.2.2.2.2.2.1, .int u.2.2.2.2.2.2.1])), (u1, .inl (cI, 30, .inl y1)), (u2, .inl (cI, 30, .inl y2)), (u3, .inl (cI, 30, .inl y3)), (u5, .inl (cI, 30, .inl u.2.2.2.2.2.2.2.1)), (u6, .inl (cI, 30, .inl u.2.2.2.2.2.2.2.2)), (u4, .inl (cI, M.length, .inl v4))] ∧ va_S A s.heap H_1 lc_2 ∧ lv_has ls 6 [(4, .int (nI 0)), (0, .ref sm), (1, .int nH), (2, .ref u4), (3, .int (nI M.length))] := ⟨(by rw [List.take_zero]; exact hu0), (hsqu), (hspu), (by omega), (by omega), (Nat.zero_le _), hP, hD, hS, hl0⟩
  clear hP hD hS hl0 hu0 hsqu hspu e_u e_y1 e_y2 e_y3 e_kc
  obtain ⟨k, ek⟩ : ∃ k : Nat, k = 0 := ⟨0, rfl⟩
  have pk1 : M.length - k < (M.length - 0) + 1 ∧ u = foldS rc (M.take k) ((L1, L2, L3, L4), P, bo, nA, nH, nP, nM, v5, v6) ∧ SQ y1 y2 kc u.1 ∧ SP y3 kc u.2.1 ∧ ck ≤ kc ∧ kc ≤ ck + 3 * k ∧ k ≤ M.length ∧ va_P G vwCl [(sm, .inr (3, [.int (nI rc), .int (nI u.2.2.1), .ref u1, .ref u2, .ref u3, .ref u4, .ref u5, .ref u6, .int (nI kc), .int u.2.2.2.1, .int u.2.2.2.2.1, .int u.2.2.2.2.2.1, .int u.2.2.2.2.2.2.1])), (u1, .inl (cI, 30, .inl y1)), (u2, .inl (cI, 30, .inl y2)), (u3, .inl (cI, 30, .inl y3)), (u5, .inl (cI, 30, .inl u.2.2.2.2.2.2.2.1)), (u6, .inl (cI, 30, .inl u.2.2.2.2.2.2.2.2)), (u4, .inl (cI, M.length, .inl v4))] H_1 ∧ va_D A [(sm, .inr (3, [.int (nI rc), .int (nI u.2.2.1), .ref u1, .ref u2, .ref u3, .ref u4, .ref u5, .ref u6, .int (nI kc), .int u.2.2.2.1, .int u.2.2.2.2.1, .int u.2.2.2.2.2.1, .int u.2.2.2.2.2.2.1])), (u1, .inl (cI, 30, .inl y1)), (u2, .inl (cI, 30, .inl y2)), (u3, .inl (cI, 30, .inl y3)), (u5, .inl (cI, 30, .inl u.2.2.2.2.2.2.2.1)), (u6, .inl (cI, 30, .inl u.2.2.2.2.2.2.2.2)), (u4, .inl (cI, M.length, .inl v4))] ∧ va_S A s.heap H_1 lc_2 ∧ lv_has ls 6 [(4, .int (nI k)), (0, .ref sm), (1, .int nH), (2, .ref u4), (3, .int (nI M.length))] := ⟨by omega, by rw [ek]; exact pk0⟩
  clear pk0 ek
  generalize (M.length - 0) + 1 = nk at pk1
  induction nk generalizing k ls H_1 lc_2 u y1 y2 y3 kc with
  | zero => exact absurd pk1.1 (Nat.not_lt_zero _)
  | succ nk ihk =>
    obtain ⟨hnk, hu, hsqk, hspk, hkl, hkc, hk, hP, hD, hS, hl⟩ := pk1
    refine lv_iload hx hb dX3_cook_16 (lv_at hl 0 rfl) ?_
    refine lv_iload_n hx hb dX3_cook_18 rfl (lv_at hl 4 rfl) ?_
    refine g_icmp_ge (tgt := 41) hx hb dX3_cook_19 (by decide) (by omega) (by omega) (fun c_3 => ?_) (fun c_3 => ?_)
    · refine lv_aload_n hx hb dX3_cook_41 rfl (lv_at hl 1 rfl) ?_
      refine va_get (D := G) (ci := 3) (v := .int u.2.2.2.2.1) (C := RX3) (T := TX3) (N := 13) hx hb hts iX3_cook_X3 hown hK hP 0 rfl rfl 10 (by decide) (hts (.fieldLink RX3 47 "GhostPantryLaw$Sim" "there" "I") (by decide +kernel)) (fun _ h9 => h9) rfl dX3_cook_42 ?_
      refine lv_iload_n hx hb dX3_cook_45 rfl (lv_at hl 2 rfl) ?_
      refine lv_isub hx hb dX3_cook_46 ?_
      have ek : M.take k = M := List.take_of_length_le (by omega)
      rw [ek] at hu
      have e9 : u.2.2.2.2.1 - nH = nI (foldQ rc M ((L1, L2, L3, L4), bo, 0)).2.2 := by
        rw [hu, (fold_q rc M ((L1, L2, L3, L4), P, bo, nA, nH, nP, nM, v5, v6)).2.2.2.1]
        exact add_sub9 nH _
      refine g_top (y := nI (foldQ rc M ((L1, L2, L3, L4), bo, 0)).2.2) e9 ?_
      have hP9 := hP.sub (ws' := [(sm, .inr (3, [.int (nI rc), .int (nI u.2.2.1), .ref u1, .ref u2, .ref u3, .ref u4, .ref u5, .ref u6, .int (nI kc), .int u.2.2.2.1, .int u.2.2.2.2.1, .int u.2.2.2.2.2.1, .int u.2.2.2.2.2.2.1])), (u1, .inl (cI, 30, .inl y1)), (u2, .inl (cI, 30, .inl y2)), (u3, .inl (cI, 30, .inl y3)), (u5, .inl (cI, 30, .inl u.2.2.2.2.2.2.2.1)), (u6, .inl (cI, 30, .inl u.2.2.2.2.2.2.2.2)), (u4, .inl (cI, M.length, .inl v4))]) [0, 1, 2, 3, 4, 5, 6] rfl
      have hD9 := hD.sub (ws' := [(sm, .inr (3, [.int (nI rc), .int (nI u.2.2.1), .ref u1, .ref u2, .ref u3, .ref u4, .ref u5, .ref u6, .int (nI kc), .int u.2.2.2.1, .int u.2.2.2.2.1, .int u.2.2.2.2.2.1, .int u.2.2.2.2.2.2.1])), (u1, .inl (cI, 30, .inl y1)), (u2, .inl (cI, 30, .inl y2)), (u3, .inl (cI, 30, .inl y3)), (u5, .inl (cI, 30, .inl u.2.2.2.2.2.2.2.1)), (u6, .inl (cI, 30, .inl u.2.2.2.2.2.2.2.2)), (u4, .inl (cI, M.length, .inl v4))]) [0, 1, 2, 3, 4, 5, 6] (by decide) rfl
      exact W.iret (v := (nI ((foldQ rc M ((L1, L2, L3, L4), bo, 0)).2.2))) hx hb hr (fun t ht hW => ⟨⟨(nI ((foldQ rc M ((L1, L2, L3, L4), bo, 0)).2.2)), u, rfl, ⟨rfl, hu⟩, _, _, _, _, hsqk, hspk, hkl, (by omega), g_at hP9 hK hD9 ht hW⟩, hS.F ht⟩) hS.2.2 dX3_cook_47
    · refine lv_aload_n hx hb dX3_cook_22 rfl (lv_at hl 3 rfl) ?_
      refine lv_iload hx hb dX3_cook_23 (lv_at hl 0 rfl) ?_
      refine g_iald hx hb hK hP 6 0 rfl rfl (i := k) (by omega) (by omega) dX3_cook_25 (v := (M.getD k 0)) (hRm _ (by omega)) ?_
      refine lv_istore (lv' := [(5, .int (M.getD k 0)), (4, .int (nI k)), (0, .ref sm), (1, .int nH), (2, .ref u4), (3, .int (nI M.length))]) hx hb dX3_cook_26 hl (by decide) rfl (fun ls hl => ?_)
      refine lv_aload_n hx hb dX3_cook_28 rfl (lv_at hl 2 rfl) ?_
      refine lv_iload hx hb dX3_cook_29 (lv_at hl 0 rfl) ?_
      have hk9 : k < M.length := by omega
      obtain ⟨j, hj30, ej⟩ := getD_ok hm2 hk9
      refine g_top (y := nI j) ej ?_
      have hok : StOk rc u := by rw [hu]; exact foldS_ok (take_ok hm2) ⟨⟨hn1, hn2, hn3, hn4, hn5, hn6⟩, hsq.jrs, h3, hsp.ok⟩
      obtain ⟨⟨M_4, M_5, M_6, M_7⟩, P_8, b_9, a_10, h_11, p_12, m_13, K_14, T_15⟩ := u
      obtain ⟨hnk, hjk, h3k, h4k⟩ : Num rc b_9 (M_4, M_5, M_6, M_7) ∧ Jrs (M_4, M_5, M_6, M_7) ∧ P_8.length ≤ rc ∧ allOk P_8 := hok
      have hsqk : SQ y1 y2 kc (M_4, M_5, M_6, M_7) := hsqk
      have hspk : SP y3 kc P_8 := hspk
      have hP : va_P G vwCl [(sm, .inr (3, [.int (nI rc), .int (nI b_9), .ref u1, .ref u2, .ref u3, .ref u4, .ref u5, .ref u6, .int (nI kc), .int a_10, .int h_11, .int p_12, .int m_13])), (u1, .inl (cI, 30, .inl y1)), (u2, .inl (cI, 30, .inl y2)), (u3, .inl (cI, 30, .inl y3)), (u5, .inl (cI, 30, .inl K_14)), (u6, .inl (cI, 30, .inl T_15)), (u4, .inl (cI, M.length, .inl v4))] H_1 := hP
      have hD : va_D A [(sm, .inr (3, [.int (nI rc), .int (nI b_9), .ref u1, .ref u2, .ref u3, .ref u4, .ref u5, .ref u6, .int (nI kc), .int a_10, .int h_11, .int p_12, .int m_13])), (u1, .inl (cI, 30, .inl y1)), (u2, .inl (cI, 30, .inl y2)), (u3, .inl (cI, 30, .inl y3)), (u5, .inl (cI, 30, .inl K_14)), (u6, .inl (cI, 30, .inl T_15)), (u4, .inl (cI, M.length, .inl v4))] := hD
      have hPc := hP.sub (ws' := [(sm, .inr (3, [.int (nI rc), .int (nI b_9), .ref u1, .ref u2, .ref u3, .ref u4, .ref u5, .ref u6, .int (nI kc), .int a_10, .int h_11, .int p_12, .int m_13])), (u1, .inl (cI, 30, .inl y1)), (u2, .inl (cI, 30, .inl y2)), (u3, .inl (cI, 30, .inl y3)), (u5, .inl (cI, 30, .inl K_14)), (u6, .inl (cI, 30, .inl T_15))]) [0, 1, 2, 3, 4, 5] rfl
      have hDc := hD.sub (ws' := [(sm, .inr (3, [.int (nI rc), .int (nI b_9), .ref u1, .ref u2, .ref u3, .ref u4, .ref u5, .ref u6, .int (nI kc), .int a_10, .int h_11, .int p_12, .int m_13])), (u1, .inl (cI, 30, .inl y1)), (u2, .inl (cI, 30, .inl y2)), (u3, .inl (cI, 30, .inl y3)), (u5, .inl (cI, 30, .inl K_14)), (u6, .inl (cI, 30, .inl T_15))]) [0, 1, 2, 3, 4, 5] (by decide) rfl
      have hKc := hK.sub (tys' := [(cI, .int)]) [0] rfl
      have hFc := va_free (wc := [(sm, .inr (3, [.int (nI rc), .int (nI b_9), .ref u1, .ref u2, .ref u3, .ref u4, .ref u5, .ref u6, .int (nI kc), .int a_10, .int h_11, .int p_12, .int m_13])), (u1, .inl (cI, 30, .inl y1)), (u2, .inl (cI, 30, .inl y2)), (u3, .inl (cI, 30, .inl y3)), (u5, .inl (cI, 30, .inl K_14)), (u6, .inl (cI, 30, .inl T_15))]) hD hS hA [0, 1, 2, 3, 4, 5] rfl
      refine va_calli (va_runV (As := [.int (nI j)]) (rest := []) ⟨hx, hb, hml, hown, hts⟩ (c_X3_ask l G cI sm u1 u2 u3 u4 u5 u6 y1 y2 y3 K_14 T_15 rc b_9 kc a_10 h_11 p_12 m_13 M_4 M_5 M_6 M_7 P_8 hnk hsqk hspk (by omega) h3k j hj30 H_1.size) (cwV 1 hts gX3_cook_X3_ask rfl rfl rfl (by decide +kernel) ⟨Nat.le_of_ble_eq_true rfl, Nat.le_of_ble_eq_true rfl⟩) (g_preV (As := [.int (nI j)]) hPc hKc hDc 0 rfl rfl) rfl rfl hl.1 rfl (lv_room (Nat.le_of_ble_eq_true rfl)) dX3_cook_31 ⟨(Nat.le_of_ble_eq_true rfl), (Nat.le_of_ble_eq_true rfl)⟩) hS (fun q _ h => hFc q h) hFc (fun r_38 u_39 t H_37 locs ht hvm hw hB hz1 hk1 hS1 => ?_)
      obtain ⟨⟨M_16, M_17, M_18, M_19⟩, P_20, b_21, a_22, h_23, p_24, m_25, K_26, T_27⟩ := u_39
      obtain ⟨f_28, f_29, f_30, k_31, hs_32, hp_33, hd_35, hc_34, hB⟩ := hB
      obtain ⟨hw, hw2⟩ := hw
      subst hw
      have es_36 : ((M_16, M_17, M_18, M_19), P_20, b_21, a_22, h_23, p_24, m_25, K_26, T_27) = askS rc (nI j) ((M_4, M_5, M_6, M_7), P_8, b_9, a_10, h_11, p_12, m_13, K_14, T_15) := hw2
      clear hw2
      have hs_32 : SQ f_28 f_29 k_31 (M_16, M_17, M_18, M_19) := hs_32
      have hp_33 : SP f_30 k_31 P_20 := hp_33
      obtain ⟨hP1, hD1⟩ := g_join (wc := [(sm, .inr (3, [.int (nI rc), .int (nI b_9), .ref u1, .ref u2, .ref u3, .ref u4, .ref u5, .ref u6, .int (nI kc), .int a_10, .int h_11, .int p_12, .int m_13])), (u1, .inl (cI, 30, .inl y1)), (u2, .inl (cI, 30, .inl y2)), (u3, .inl (cI, 30, .inl y3)), (u5, .inl (cI, 30, .inl K_14)), (u6, .inl (cI, 30, .inl T_15))]) (wr := [(u4, .inl (cI, M.length, .inl v4))]) (w1 := [(sm, .inr (3, [.int (nI rc), .int (nI b_21), .ref u1, .ref u2, .ref u3, .ref u4, .ref u5, .ref u6, .int (nI k_31), .int a_22, .int h_23, .int p_24, .int m_25])), (u1, .inl (cI, 30, .inl f_28)), (u2, .inl (cI, 30, .inl f_29)), (u3, .inl (cI, 30, .inl f_30)), (u5, .inl (cI, 30, .inl K_26)), (u6, .inl (cI, 30, .inl T_27))]) hP hD [0, 1, 2, 3, 4, 5] [6] rfl rfl (by decide) (by decide) ht hk1 hFc hB
      clear hB hk1 hz1 hvm ht hPc hDc hKc hFc
      clear hP hD hS
      have hP : va_P G vwCl [(u4, .inl (cI, M.length, .inl v4)), (sm, .inr (3, [.int (nI rc), .int (nI b_21), .ref u1, .ref u2, .ref u3, .ref u4, .ref u5, .ref u6, .int (nI k_31), .int a_22, .int h_23, .int p_24, .int m_25])), (u1, .inl (cI, 30, .inl f_28)), (u2, .inl (cI, 30, .inl f_29)), (u3, .inl (cI, 30, .inl f_30)), (u5, .inl (cI, 30, .inl K_26)), (u6, .inl (cI, 30, .inl T_27))] H_37 := hP1
      have hD : va_D A [(u4, .inl (cI, M.length, .inl v4)), (sm, .inr (3, [.int (nI rc), .int (nI b_21), .ref u1, .ref u2, .ref u3, .ref u4, .ref u5, .ref u6, .int (nI k_31), .int a_22, .int h_23, .int p_24, .int m_25])), (u1, .inl (cI, 30, .inl f_28)), (u2, .inl (cI, 30, .inl f_29)), (u3, .inl (cI, 30, .inl f_30)), (u5, .inl (cI, 30, .inl K_26)), (u6, .inl (cI, 30, .inl T_27))] := hD1
      have hS := hS1
      clear hP1 hD1 hS1
      refine lv_pop hx hb dX3_cook_34 rfl ?_
      have hu9 : ((M_16, M_17, M_18, M_19), P_20, b_21, a_22, h_23, p_24, m_25, K_26, T_27) = foldS rc (M.take (k + 1)) ((L1, L2, L3, L4), P, bo, nA, nH, nP, nM, v5, v6) := by
        rw [take_snoc hk9, foldS_snoc, ← hu, ej, ← es_36]
      refine lv_iinc (v := (nI (k + 1))) (lv' := [(4, .int (nI (k + 1))), (5, .int (M.getD k 0)), (0, .ref sm), (1, .int nH), (2, .ref u4), (3, .int (nI M.length))]) hx hb dX3_cook_35 hl (k := 1) rfl (nI_1 _) (by decide) rfl (fun ls hl => ?_)
      refine lv_goto (tgt := 16) hx hb dX3_cook_38 (by decide) ?_
      have hP1 := hP.sub (ws' := [(sm, .inr (3, [.int (nI rc), .int (nI b_21), .ref u1, .ref u2, .ref u3, .ref u4, .ref u5, .ref u6, .int (nI k_31), .int a_22, .int h_23, .int p_24, .int m_25])), (u1, .inl (cI, 30, .inl f_28)), (u2, .inl (cI, 30, .inl f_29)), (u3, .inl (cI, 30, .inl f_30)), (u5, .inl (cI, 30, .inl K_26)), (u6, .inl (cI, 30, .inl T_27)), (u4, .inl (cI, M.length, .inl v4))]) [1, 2, 3, 4, 5, 6, 0] rfl
      have hD1 := hD.sub (ws' := [(sm, .inr (3, [.int (nI rc), .int (nI b_21), .ref u1, .ref u2, .ref u3, .ref u4, .ref u5, .ref u6, .int (nI k_31), .int a_22, .int h_23, .int p_24, .int m_25])), (u1, .inl (cI, 30, .inl f_28)), (u2, .inl (cI, 30, .inl f_29)), (u3, .inl (cI, 30, .inl f_30)), (u5, .inl (cI, 30, .inl K_26)), (u6, .inl (cI, 30, .inl T_27)), (u4, .inl (cI, M.length, .inl v4))]) [1, 2, 3, 4, 5, 6, 0] (by decide) rfl
      clear hP hD
      have hP := hP1
      have hD := hD1
      clear hP1 hD1
      have hl9 := lv_sub (l' := [(4, .int (nI (k + 1))), (0, .ref sm), (1, .int nH), (2, .ref u4), (3, .int (nI M.length))]) hl [0, 2, 3, 4, 5] rfl
      exact ihk _ _ _ _ _ _ _ _ _ ⟨by omega, (hu9), (hs_32), (hp_33), (by omega), (by omega), (by omega), hP, hD, hS, hl9⟩
