set_option maxHeartbeats 4000000 in
set_option maxRecDepth 100000 in
theorem c_X2_isThere (l : Launch) (G : va_G) (cI : ClassId) (kx : Nat) (hk : kx < 2 ^ 31) (sz : Nat) : Met l yX2_isThere wsX2_isThere ({ frames := 0, cells := 0, slots := 0, locals := 0 }) (va_Pc [.int (nI kx)] (gpre G [(cI, .int)] [] sz)) (va_Qi (fun (z : Int32) (_ : Unit) => z = nI (decide (kx = 1 ∨ kx = 2)).toNat) (fun (_ : Unit) t => gat G [(cI, .int)] (va_A [] sz) [] t) (va_A [] sz)) 0 0 (va_A [] sz) := by
  refine Met.ofW (cc := cX2_isThere) (maxL := 1) (ret := (some .boolean)) (by decide) rfl ?_
  intro p e s m args below meth c s₁ B hml hv
  obtain ⟨rfl, hsz, hP, hK, hD0⟩ := hv
  have hx := B.exec
  have hb := B.bytes
  have hr := B.returns
  have hts := atoms_spec (ws := wsX2_isThere) B.pre
  have hown : s.vm.findClass RX2 = some m.cls := findClass_of_methodNamed B.named
  have hlocks := B.notSynchronized
  subst hsz
  have hD := hD0.self (sz := s.heap.size)
  clear hD0
  generalize hAe : va_A [] s.heap.size = A at hD ⊢
  have hA : ∀ q : Nat, s.heap.size ≤ q → A q := fun q h => by rw [← hAe]; exact Or.inr h
  have hS : va_S A s.heap s.heap [] := va_S.rf
  have hP : va_P G vwCl [] s.heap := hP
  have hl := lv_entry ([.int (nI kx)]) (n := 1) (Nat.le_of_ble_eq_true rfl)
  rw [lg_entry_eq]
  generalize (lg_sl ([.int (nI kx)]) ++ List.replicate (1 - (lg_sl ([.int (nI kx)])).length) Slot.unset).toArray = ls at hl ⊢
  have hl : lv_has ls 1 [(0, .int (nI kx))] := hl
  refine lv_iload_n hx hb dX2_isThere_0 rfl (lv_at hl 0 rfl) ?_
  refine lv_iconst (v := (nI 1)) hx hb dX2_isThere_1 (by decide +kernel) ?_
  refine g_icmp_eq (tgt := 10) hx hb dX2_isThere_2 (by decide) (by omega) (by decide) (fun c_1 => ?_) (fun c_1 => ?_)
  · refine lv_iconst (v := (nI 1)) hx hb dX2_isThere_10 (by decide +kernel) ?_
    refine lv_goto (tgt := 15) hx hb dX2_isThere_11 (by decide) ?_
    have hP9 := hP.sub (ws' := []) [] rfl
    have hD9 := hD.sub (ws' := []) [] (by decide) rfl
    exact W.zret (v := (nI 1)) hx hb hr rfl (fun t ht hW => ⟨⟨(nI 1), (), rfl, (tn_t (Or.inl (by assumption))), g_at hP9 hK hD9 ht hW⟩, hS.F ht⟩) hS.2.2 dX2_isThere_15
  · refine lv_iload_n hx hb dX2_isThere_5 rfl (lv_at hl 0 rfl) ?_
    refine lv_iconst (v := (nI 2)) hx hb dX2_isThere_6 (by decide +kernel) ?_
    refine g_icmp_ne (tgt := 14) hx hb dX2_isThere_7 (by decide) (by omega) (by decide) (fun c_2 => ?_) (fun c_2 => ?_)
    · refine lv_iconst (v := (nI 0)) hx hb dX2_isThere_14 (by decide +kernel) ?_
      have hP9 := hP.sub (ws' := []) [] rfl
      have hD9 := hD.sub (ws' := []) [] (by decide) rfl
      exact W.zret (v := (nI 0)) hx hb hr rfl (fun t ht hW => ⟨⟨(nI 0), (), rfl, (tn_f (fun z => by omega)), g_at hP9 hK hD9 ht hW⟩, hS.F ht⟩) hS.2.2 dX2_isThere_15
    · refine lv_iconst (v := (nI 1)) hx hb dX2_isThere_10 (by decide +kernel) ?_
      refine lv_goto (tgt := 15) hx hb dX2_isThere_11 (by decide) ?_
      have hP9 := hP.sub (ws' := []) [] rfl
      have hD9 := hD.sub (ws' := []) [] (by decide) rfl
      exact W.zret (v := (nI 1)) hx hb hr rfl (fun t ht hW => ⟨⟨(nI 1), (), rfl, (tn_t (Or.inr (by assumption))), g_at hP9 hK hD9 ht hW⟩, hS.F ht⟩) hS.2.2 dX2_isThere_15

set_option maxHeartbeats 4000000 in
set_option maxRecDepth 100000 in
theorem c_X2_tallyOf (l : Launch) (G : va_G) (cI : ClassId) (a : Nat) (f : Nat → Int32) (j : Nat) (hj : j < 30) (sz : Nat) : Met l yX2_tallyOf wsX2_tallyOf ({ frames := 0, cells := 0, slots := 0, locals := 0 }) (va_Pc [.ref a, .int (nI j)] (gpre G [(cI, .int)] [(a, .inl (cI, 30, .inl f))] sz)) (va_Qi (fun (z : Int32) (_ : Unit) => z = f j) (fun (_ : Unit) t => gat G [(cI, .int)] (va_A [(a, .inl (cI, 30, .inl f))] sz) [(a, .inl (cI, 30, .inl f))] t) (va_A [(a, .inl (cI, 30, .inl f))] sz)) 0 0 (va_A [(a, .inl (cI, 30, .inl f))] sz) := by
  refine Met.ofW (cc := cX2_tallyOf) (maxL := 2) (ret := (some .int)) (by decide) rfl ?_
  intro p e s m args below meth c s₁ B hml hv
  obtain ⟨rfl, hsz, hP, hK, hD0⟩ := hv
  have hx := B.exec
  have hb := B.bytes
  have hr := B.returns
  have hts := atoms_spec (ws := wsX2_tallyOf) B.pre
  have hown : s.vm.findClass RX2 = some m.cls := findClass_of_methodNamed B.named
  have hlocks := B.notSynchronized
  subst hsz
  have hD := hD0.self (sz := s.heap.size)
  clear hD0
  generalize hAe : va_A [(a, .inl (cI, 30, .inl f))] s.heap.size = A at hD ⊢
  have hA : ∀ q : Nat, s.heap.size ≤ q → A q := fun q h => by rw [← hAe]; exact Or.inr h
  have hS : va_S A s.heap s.heap [] := va_S.rf
  have hP : va_P G vwCl [(a, .inl (cI, 30, .inl f))] s.heap := hP
  have hl := lv_entry ([.ref a, .int (nI j)]) (n := 2) (Nat.le_of_ble_eq_true rfl)
  rw [lg_entry_eq]
  generalize (lg_sl ([.ref a, .int (nI j)]) ++ List.replicate (2 - (lg_sl ([.ref a, .int (nI j)])).length) Slot.unset).toArray = ls at hl ⊢
  have hl : lv_has ls 2 [(0, .ref a), (1, .int (nI j))] := hl
  refine lv_iload_n hx hb dX2_tallyOf_0 rfl (lv_at hl 1 rfl) ?_
  refine g_if_lt (tgt := 10) hx hb dX2_tallyOf_1 (by decide) (by omega) ?_
  refine lv_iload_n hx hb dX2_tallyOf_4 rfl (lv_at hl 1 rfl) ?_
  refine lv_aload_n hx hb dX2_tallyOf_5 rfl (lv_at hl 0 rfl) ?_
  refine va_alen hx hb hK hP 0 0 rfl rfl (v := (nI 30)) rfl dX2_tallyOf_6 ?_
  refine g_icmp_lt (tgt := 14) hx hb dX2_tallyOf_7 (by decide) (by omega) (by decide) (fun c_2 => ?_) (fun c_2 => False.elim (by omega))
  refine lv_aload_n hx hb dX2_tallyOf_14 rfl (lv_at hl 0 rfl) ?_
  refine lv_iload_n hx hb dX2_tallyOf_15 rfl (lv_at hl 1 rfl) ?_
  refine g_iald hx hb hK hP 0 0 rfl rfl (i := j) (by omega) (by decide) dX2_tallyOf_16 (v := (f j)) (rfl) ?_
  have hP9 := hP.sub (ws' := [(a, .inl (cI, 30, .inl f))]) [0] rfl
  have hD9 := hD.sub (ws' := [(a, .inl (cI, 30, .inl f))]) [0] (by decide) rfl
  exact W.iret (v := (f j)) hx hb hr (fun t ht hW => ⟨⟨(f j), (), rfl, rfl, g_at hP9 hK hD9 ht hW⟩, hS.F ht⟩) hS.2.2 dX2_tallyOf_17

set_option maxHeartbeats 4000000 in
set_option maxRecDepth 100000 in
theorem c_X2_addOne (l : Launch) (G : va_G) (cI : ClassId) (a : Nat) (f : Nat → Int32) (j : Nat) (hj : j < 30) (sz : Nat) : Met l yX2_addOne wsX2_addOne ({ frames := 0, cells := 0, slots := 0, locals := 0 }) (va_Pc [.ref a, .int (nI j)] (gpre G [(cI, .int)] [(a, .inl (cI, 30, .inl f))] sz)) (va_Qv (fun (_ : Unit) => True) (fun (_ : Unit) t => gat G [(cI, .int)] (va_A [(a, .inl (cI, 30, .inl f))] sz) [(a, .inl (cI, 30, .inl (upd f j (f j + nI 1))))] t) (va_A [(a, .inl (cI, 30, .inl f))] sz)) 0 0 (va_A [(a, .inl (cI, 30, .inl f))] sz) := by
  refine Met.ofW (cc := cX2_addOne) (maxL := 2) (ret := none) (by decide) rfl ?_
  intro p e s m args below meth c s₁ B hml hv
  obtain ⟨rfl, hsz, hP, hK, hD0⟩ := hv
  have hx := B.exec
  have hb := B.bytes
  have hr := B.returns
  have hts := atoms_spec (ws := wsX2_addOne) B.pre
  have hown : s.vm.findClass RX2 = some m.cls := findClass_of_methodNamed B.named
  have hlocks := B.notSynchronized
  subst hsz
  have hD := hD0.self (sz := s.heap.size)
  clear hD0
  generalize hAe : va_A [(a, .inl (cI, 30, .inl f))] s.heap.size = A at hD ⊢
  have hA : ∀ q : Nat, s.heap.size ≤ q → A q := fun q h => by rw [← hAe]; exact Or.inr h
  have hS : va_S A s.heap s.heap [] := va_S.rf
  have hP : va_P G vwCl [(a, .inl (cI, 30, .inl f))] s.heap := hP
  have hl := lv_entry ([.ref a, .int (nI j)]) (n := 2) (Nat.le_of_ble_eq_true rfl)
  rw [lg_entry_eq]
  generalize (lg_sl ([.ref a, .int (nI j)]) ++ List.replicate (2 - (lg_sl ([.ref a, .int (nI j)])).length) Slot.unset).toArray = ls at hl ⊢
  have hl : lv_has ls 2 [(0, .ref a), (1, .int (nI j))] := hl
  refine lv_iload_n hx hb dX2_addOne_0 rfl (lv_at hl 1 rfl) ?_
  refine g_if_lt (tgt := 17) hx hb dX2_addOne_1 (by decide) (by omega) ?_
  refine lv_iload_n hx hb dX2_addOne_4 rfl (lv_at hl 1 rfl) ?_
  refine lv_aload_n hx hb dX2_addOne_5 rfl (lv_at hl 0 rfl) ?_
  refine va_alen hx hb hK hP 0 0 rfl rfl (v := (nI 30)) rfl dX2_addOne_6 ?_
  refine g_icmp_ge (tgt := 17) hx hb dX2_addOne_7 (by decide) (by omega) (by decide) (fun c_2 => False.elim (by omega)) (fun c_2 => ?_)
  refine lv_aload_n hx hb dX2_addOne_10 rfl (lv_at hl 0 rfl) ?_
  refine lv_iload_n hx hb dX2_addOne_11 rfl (lv_at hl 1 rfl) ?_
  refine lv_dup2_11 hx hb dX2_addOne_12 rfl rfl ?_
  refine g_iald hx hb hK hP 0 0 rfl rfl (i := j) (by omega) (by decide) dX2_addOne_13 (v := (f j)) (rfl) ?_
  refine lv_iconst (v := (nI 1)) hx hb dX2_addOne_14 (by decide +kernel) ?_
  refine lv_iadd hx hb dX2_addOne_15 ?_
  refine g_iast hx hb hK hP hD hS 0 0 rfl rfl (i := j) (x := ((f j) + (nI 1))) (by omega) (by decide) dX2_addOne_16 (fun H_3 locs hP1 hD1 hS1 => ?_)
  clear hP hD hS
  have hP : va_P G vwCl [(a, .inl (cI, 30, .inl (upd f j ((f j) + (nI 1)))))] H_3 := hP1
  have hD : va_D A [(a, .inl (cI, 30, .inl (upd f j ((f j) + (nI 1)))))] := hD1
  have hS := hS1
  clear hP1 hD1 hS1
  have hP9 := hP.sub (ws' := [(a, .inl (cI, 30, .inl (upd f j ((f j) + (nI 1)))))]) [0] rfl
  have hD9 := hD.sub (ws' := [(a, .inl (cI, 30, .inl (upd f j ((f j) + (nI 1)))))]) [0] (by decide) rfl
  exact W.vret hx hb hr (fun t ht hW => ⟨⟨(), rfl, trivial, g_at hP9 hK hD9 ht hW⟩, hS.F ht⟩) hS.2.2 dX2_addOne_17

set_option maxHeartbeats 4000000 in
set_option maxRecDepth 100000 in
theorem c_X2_checkJar_y (l : Launch) (G : va_G) (cI : ClassId) (j : Nat) (hj : j < 30) (sz : Nat) : Met l yX2_checkJar wsX2_checkJar ({ frames := 0, cells := 0, slots := 0, locals := 0 }) (va_Pc [.int (nI j)] (gpre G [(cI, .int)] [] sz)) (va_Qv (fun (_ : Unit) => True) (fun (_ : Unit) t => gat G [(cI, .int)] (va_A [] sz) [] t) (va_A [] sz)) 0 0 (va_A [] sz) := by
  refine Met.ofW (cc := cX2_checkJar) (maxL := 1) (ret := none) (by decide) rfl ?_
  intro p e s m args below meth c s₁ B hml hv
  obtain ⟨rfl, hsz, hP, hK, hD0⟩ := hv
  have hx := B.exec
  have hb := B.bytes
  have hr := B.returns
  have hts := atoms_spec (ws := wsX2_checkJar) B.pre
  have hown : s.vm.findClass RX2 = some m.cls := findClass_of_methodNamed B.named
  have hlocks := B.notSynchronized
  subst hsz
  have hD := hD0.self (sz := s.heap.size)
  clear hD0
  generalize hAe : va_A [] s.heap.size = A at hD ⊢
  have hA : ∀ q : Nat, s.heap.size ≤ q → A q := fun q h => by rw [← hAe]; exact Or.inr h
  have hS : va_S A s.heap s.heap [] := va_S.rf
  have hP : va_P G vwCl [] s.heap := hP
  have hl := lv_entry ([.int (nI j)]) (n := 1) (Nat.le_of_ble_eq_true rfl)
  rw [lg_entry_eq]
  generalize (lg_sl ([.int (nI j)]) ++ List.replicate (1 - (lg_sl ([.int (nI j)])).length) Slot.unset).toArray = ls at hl ⊢
  have hl : lv_has ls 1 [(0, .int (nI j))] := hl
  refine lv_iload_n hx hb dX2_checkJar_0 rfl (lv_at hl 0 rfl) ?_
  refine g_if_lt (tgt := 10) hx hb dX2_checkJar_1 (by decide) (by omega) ?_
  refine lv_iload_n hx hb dX2_checkJar_4 rfl (lv_at hl 0 rfl) ?_
  refine lv_bipush (v := (nI 30)) hx hb dX2_checkJar_5 (by decide +kernel) ?_
  refine g_icmp_lt (tgt := 20) hx hb dX2_checkJar_7 (by decide) (by omega) (by decide) (fun c_2 => ?_) (fun c_2 => False.elim (by omega))
  have hP9 := hP.sub (ws' := []) [] rfl
  have hD9 := hD.sub (ws' := []) [] (by decide) rfl
  exact W.vret hx hb hr (fun t ht hW => ⟨⟨(), rfl, trivial, g_at hP9 hK hD9 ht hW⟩, hS.F ht⟩) hS.2.2 dX2_checkJar_20


set_option maxHeartbeats 4000000 in
set_option maxRecDepth 100000 in
theorem c_X2_servePlain (l : Launch) (G : va_G) (cI : ClassId) (r j : Nat) (f5 : Nat → Int32) (P : List Int32) (hR5 : Rw f5 P) (rc : Nat) (jar : Int32) (h1 : 1 ≤ rc) (h2 : rc ≤ 12) (h3 : P.length ≤ rc) (sz : Nat) : Met l yX2_servePlain wsX2_servePlain ({ frames := 2, cells := 0, slots := 0, locals := 41 }) (va_Pc [.ref r, .int (nI rc), .int jar] (gpre G [(cI, .int)] [(r, .inr (0, [.ref j, .int (nI P.length)])), (j, .inl (cI, 30, .inl f5))] sz)) (va_Qi (fun (z : Int32) (_ : Unit) => z = nI (decide (jar ∈ P)).toNat) (fun (_ : Unit) t => ∃ f' : Nat → Int32, Rw f' (sPl rc P jar) ∧ gat G [(cI, .int)] (va_A [(r, .inr (0, [.ref j, .int (nI P.length)])), (j, .inl (cI, 30, .inl f5))] sz) [(r, .inr (0, [.ref j, .int (nI ((sPl rc P jar).length))])), (j, .inl (cI, 30, .inl f'))] t) (va_A [(r, .inr (0, [.ref j, .int (nI P.length)])), (j, .inl (cI, 30, .inl f5))] sz)) 0 0 (va_A [(r, .inr (0, [.ref j, .int (nI P.length)])), (j, .inl (cI, 30, .inl f5))] sz) := by
  refine Met.ofW (cc := cX2_servePlain) (maxL := 5) (ret := (some .boolean)) (by decide) rfl ?_
  intro p e s m args below meth c s₁ B hml hv
  obtain ⟨rfl, hsz, hP, hK, hD0⟩ := hv
  have hx := B.exec
  have hb := B.bytes
  have hr := B.returns
  have hts := atoms_spec (ws := wsX2_servePlain) B.pre
  have hown : s.vm.findClass RX2 = some m.cls := findClass_of_methodNamed B.named
  have hlocks := B.notSynchronized
  subst hsz
  have hD := hD0.self (sz := s.heap.size)
  clear hD0
  generalize hAe : va_A [(r, .inr (0, [.ref j, .int (nI P.length)])), (j, .inl (cI, 30, .inl f5))] s.heap.size = A at hD ⊢
  have hA : ∀ q : Nat, s.heap.size ≤ q → A q := fun q h => by rw [← hAe]; exact Or.inr h
  have hS : va_S A s.heap s.heap [] := va_S.rf
  have hP : va_P G vwCl [(r, .inr (0, [.ref j, .int (nI P.length)])), (j, .inl (cI, 30, .inl f5))] s.heap := hP
  have hl := lv_entry ([.ref r, .int (nI rc), .int jar]) (n := 5) (Nat.le_of_ble_eq_true rfl)
  rw [lg_entry_eq]
  generalize (lg_sl ([.ref r, .int (nI rc), .int jar]) ++ List.replicate (5 - (lg_sl ([.ref r, .int (nI rc), .int jar])).length) Slot.unset).toArray = ls at hl ⊢
  have hl : lv_has ls 5 [(0, .ref r), (1, .int (nI rc)), (2, .int jar)] := hl
  refine lv_aload_n hx hb dX2_servePlain_0 rfl (lv_at hl 0 rfl) ?_
  refine lv_iload_n hx hb dX2_servePlain_1 rfl (lv_at hl 2 rfl) ?_
  have hPc := hP.sub (ws' := [(r, .inr (0, [.ref j, .int (nI P.length)])), (j, .inl (cI, 30, .inl f5))]) [0, 1] rfl
  have hDc := hD.sub (ws' := [(r, .inr (0, [.ref j, .int (nI P.length)])), (j, .inl (cI, 30, .inl f5))]) [0, 1] (by decide) rfl
  have hKc := hK.sub (tys' := [(cI, .int)]) [0] rfl
  have hFc := va_free (wc := [(r, .inr (0, [.ref j, .int (nI P.length)])), (j, .inl (cI, 30, .inl f5))]) hD hS hA [0, 1] rfl
  refine va_calli (va_runV (As := [.int jar]) (rest := []) ⟨hx, hb, hml, hown, hts⟩ (c_X0_placeOf l G cI r j f5 P hR5 (by omega) jar s.heap.size) (cwV 1 hts gX2_servePlain_X0_placeOf rfl rfl rfl (by decide +kernel) ⟨Nat.le_of_ble_eq_true rfl, Nat.le_of_ble_eq_true rfl⟩) (g_preV (As := [.int jar]) hPc hKc hDc 0 rfl rfl) rfl rfl hl.1 rfl (lv_room (Nat.le_of_ble_eq_true rfl)) dX2_servePlain_2 ⟨(Nat.le_of_ble_eq_true rfl), (Nat.le_of_ble_eq_true rfl)⟩) hS (fun q _ h => hFc q h) hFc (fun r_2 u_3 t H_1 locs ht hvm hw hB hz1 hk1 hS1 => ?_)
  subst hw
  obtain ⟨hP1, hD1⟩ := g_join (wc := [(r, .inr (0, [.ref j, .int (nI P.length)])), (j, .inl (cI, 30, .inl f5))]) (wr := []) (w1 := [(r, .inr (0, [.ref j, .int (nI P.length)])), (j, .inl (cI, 30, .inl f5))]) hP hD [0, 1] [] rfl rfl (by decide) (by decide) ht hk1 hFc hB
  clear hB hk1 hz1 hvm ht hPc hDc hKc hFc
  clear hP hD hS
  have hP : va_P G vwCl [(r, .inr (0, [.ref j, .int (nI P.length)])), (j, .inl (cI, 30, .inl f5))] H_1 := hP1
  have hD : va_D A [(r, .inr (0, [.ref j, .int (nI P.length)])), (j, .inl (cI, 30, .inl f5))] := hD1
  have hS := hS1
  clear hP1 hD1 hS1
  refine lv_istore_n (lv' := [(3, .int (pos P jar)), (0, .ref r), (1, .int (nI rc)), (2, .int jar)]) hx hb dX2_servePlain_5 rfl hl (by decide) rfl (fun ls hl => ?_)
  refine lv_iload_n hx hb dX2_servePlain_6 rfl (lv_at hl 0 rfl) ?_
  refine lv_iconst (v := (-1)) hx hb dX2_servePlain_7 (by decide +kernel) ?_
  refine lv_icmp_eq (tgt := 15) hx hb dX2_servePlain_8 (by decide) (fun c_4 => ?_) (fun c_4 => ?_)
  · have mj : jar ∉ P := pos_out (by omega) c_4
    refine lv_iconst (v := (nI 0)) hx hb dX2_servePlain_15 (by decide +kernel) ?_
    refine lv_istore (lv' := [(4, .int (nI 0)), (3, .int (pos P jar)), (0, .ref r), (1, .int (nI rc)), (2, .int jar)]) hx hb dX2_servePlain_16 hl (by decide) rfl (fun ls hl => ?_)
    refine lv_iload hx hb dX2_servePlain_18 (lv_at hl 0 rfl) ?_
    refine g_if_eq (tgt := 32) hx hb dX2_servePlain_20 (by decide) (by decide) (fun c_5 => ?_) (fun c_5 => False.elim (by omega))
    refine lv_aload_n hx hb dX2_servePlain_32 rfl (lv_at hl 2 rfl) ?_
    have hPc := hP.sub (ws' := [(r, .inr (0, [.ref j, .int (nI P.length)])), (j, .inl (cI, 30, .inl f5))]) [0, 1] rfl
    have hDc := hD.sub (ws' := [(r, .inr (0, [.ref j, .int (nI P.length)])), (j, .inl (cI, 30, .inl f5))]) [0, 1] (by decide) rfl
    have hKc := hK.sub (tys' := [(cI, .int)]) [0] rfl
    have hFc := va_free (wc := [(r, .inr (0, [.ref j, .int (nI P.length)])), (j, .inl (cI, 30, .inl f5))]) hD hS hA [0, 1] rfl
    refine va_calli (va_runV (As := []) (rest := []) ⟨hx, hb, hml, hown, hts⟩ (c_X0_length l G cI r j f5 P hR5 (by omega)  H_1.size) (cwV 0 hts gX2_servePlain_X0_length rfl rfl rfl (by decide +kernel) ⟨Nat.le_of_ble_eq_true rfl, Nat.le_of_ble_eq_true rfl⟩) (g_preV (As := []) hPc hKc hDc 0 rfl rfl) rfl rfl hl.1 rfl (lv_room (Nat.le_of_ble_eq_true rfl)) dX2_servePlain_33 ⟨(Nat.le_of_ble_eq_true rfl), (Nat.le_of_ble_eq_true rfl)⟩) hS (fun q _ h => hFc q h) hFc (fun r_7 u_8 t H_6 locs ht hvm hw hB hz1 hk1 hS1 => ?_)
    subst hw
    obtain ⟨hP1, hD1⟩ := g_join (wc := [(r, .inr (0, [.ref j, .int (nI P.length)])), (j, .inl (cI, 30, .inl f5))]) (wr := []) (w1 := [(r, .inr (0, [.ref j, .int (nI P.length)])), (j, .inl (cI, 30, .inl f5))]) hP hD [0, 1] [] rfl rfl (by decide) (by decide) ht hk1 hFc hB
    clear hB hk1 hz1 hvm ht hPc hDc hKc hFc
    clear hP hD hS
    have hP : va_P G vwCl [(r, .inr (0, [.ref j, .int (nI P.length)])), (j, .inl (cI, 30, .inl f5))] H_6 := hP1
    have hD : va_D A [(r, .inr (0, [.ref j, .int (nI P.length)])), (j, .inl (cI, 30, .inl f5))] := hD1
    have hS := hS1
    clear hP1 hD1 hS1
    refine lv_iload_n hx hb dX2_servePlain_36 rfl (lv_at hl 3 rfl) ?_
    refine g_icmp_lt (tgt := 45) hx hb dX2_servePlain_37 (by decide) (by omega) (by omega) (fun c_9 => ?_) (fun c_9 => ?_)
    · refine lv_aload_n hx hb dX2_servePlain_45 rfl (lv_at hl 2 rfl) ?_
      refine lv_iload_n hx hb dX2_servePlain_46 rfl (lv_at hl 4 rfl) ?_
      have hPc := hP.sub (ws' := [(r, .inr (0, [.ref j, .int (nI P.length)])), (j, .inl (cI, 30, .inl f5))]) [0, 1] rfl
      have hDc := hD.sub (ws' := [(r, .inr (0, [.ref j, .int (nI P.length)])), (j, .inl (cI, 30, .inl f5))]) [0, 1] (by decide) rfl
      have hKc := hK.sub (tys' := [(cI, .int)]) [0] rfl
      have hFc := va_free (wc := [(r, .inr (0, [.ref j, .int (nI P.length)])), (j, .inl (cI, 30, .inl f5))]) hD hS hA [0, 1] rfl
      refine va_callv (va_runV (As := [.int jar]) (rest := []) ⟨hx, hb, hml, hown, hts⟩ (c_X0_putFirst l G cI r j f5 P hR5 (by omega) jar (by first | omega | (simp only [List.length_cons, List.length_dropLast, List.length_append] at *; omega)) H_6.size) (cwV 1 hts gX2_servePlain_X0_putFirst rfl rfl rfl (by decide +kernel) ⟨Nat.le_of_ble_eq_true rfl, Nat.le_of_ble_eq_true rfl⟩) (g_preV (As := [.int jar]) hPc hKc hDc 0 rfl rfl) rfl rfl hl.1 rfl (lv_room (Nat.le_of_ble_eq_true rfl)) dX2_servePlain_47 ⟨(Nat.le_of_ble_eq_true rfl), (Nat.le_of_ble_eq_true rfl)⟩) hS (fun q _ h => hFc q h) hFc (fun u_14 t H_12 locs ht hvm hw hB hz1 hk1 hS1 => ?_)
      obtain ⟨f_10, hf_11, hB⟩ := hB
      obtain ⟨hP1, hD1⟩ := g_join (wc := [(r, .inr (0, [.ref j, .int (nI P.length)])), (j, .inl (cI, 30, .inl f5))]) (wr := []) (w1 := [(r, .inr (0, [.ref j, .int (nI ((jar :: P).length))])), (j, .inl (cI, 30, .inl f_10))]) hP hD [0, 1] [] rfl rfl (by decide) (by decide) ht hk1 hFc hB
      clear hB hk1 hz1 hvm ht hPc hDc hKc hFc
      clear hP hD hS
      have hP : va_P G vwCl [(r, .inr (0, [.ref j, .int (nI ((jar :: P).length))])), (j, .inl (cI, 30, .inl f_10))] H_12 := hP1
      have hD : va_D A [(r, .inr (0, [.ref j, .int (nI ((jar :: P).length))])), (j, .inl (cI, 30, .inl f_10))] := hD1
      have hS := hS1
      clear hP1 hD1 hS1
      refine lv_iload hx hb dX2_servePlain_50 (lv_at hl 0 rfl) ?_
      have e9 : (jar :: P) = sPl rc P jar := pl_new mj (by omega)
      rw [← e9]
      have hP9 := hP.sub (ws' := [(r, .inr (0, [.ref j, .int (nI ((jar :: P).length))])), (j, .inl (cI, 30, .inl f_10))]) [0, 1] rfl
      have hD9 := hD.sub (ws' := [(r, .inr (0, [.ref j, .int (nI ((jar :: P).length))])), (j, .inl (cI, 30, .inl f_10))]) [0, 1] (by decide) rfl
      exact W.zret (v := (nI 0)) hx hb hr rfl (fun t ht hW => ⟨⟨(nI 0), (), rfl, (tn_f mj), _, hf_11, g_at hP9 hK hD9 ht hW⟩, hS.F ht⟩) hS.2.2 dX2_servePlain_52
    · refine lv_aload_n hx hb dX2_servePlain_40 rfl (lv_at hl 2 rfl) ?_
      have hPc := hP.sub (ws' := [(r, .inr (0, [.ref j, .int (nI P.length)])), (j, .inl (cI, 30, .inl f5))]) [0, 1] rfl
      have hDc := hD.sub (ws' := [(r, .inr (0, [.ref j, .int (nI P.length)])), (j, .inl (cI, 30, .inl f5))]) [0, 1] (by decide) rfl
      have hKc := hK.sub (tys' := [(cI, .int)]) [0] rfl
      have hFc := va_free (wc := [(r, .inr (0, [.ref j, .int (nI P.length)])), (j, .inl (cI, 30, .inl f5))]) hD hS hA [0, 1] rfl
      refine va_calli (va_runV (As := []) (rest := []) ⟨hx, hb, hml, hown, hts⟩ (c_X0_takeLast l G cI r j f5 P hR5 (by omega) (by first | omega | (simp only [List.length_cons, List.length_dropLast, List.length_append] at *; omega)) H_6.size) (cwV 0 hts gX2_servePlain_X0_takeLast rfl rfl rfl (by decide +kernel) ⟨Nat.le_of_ble_eq_true rfl, Nat.le_of_ble_eq_true rfl⟩) (g_preV (As := []) hPc hKc hDc 0 rfl rfl) rfl rfl hl.1 rfl (lv_room (Nat.le_of_ble_eq_true rfl)) dX2_servePlain_41 ⟨(Nat.le_of_ble_eq_true rfl), (Nat.le_of_ble_eq_true rfl)⟩) hS (fun q _ h => hFc q h) hFc (fun r_18 u_19 t H_17 locs ht hvm hw hB hz1 hk1 hS1 => ?_)
      subst hw
      obtain ⟨f_15, hf_16, hB⟩ := hB
      obtain ⟨hP1, hD1⟩ := g_join (wc := [(r, .inr (0, [.ref j, .int (nI P.length)])), (j, .inl (cI, 30, .inl f5))]) (wr := []) (w1 := [(r, .inr (0, [.ref j, .int (nI P.dropLast.length)])), (j, .inl (cI, 30, .inl f_15))]) hP hD [0, 1] [] rfl rfl (by decide) (by decide) ht hk1 hFc hB
      clear hB hk1 hz1 hvm ht hPc hDc hKc hFc
      clear hP hD hS
      have hP : va_P G vwCl [(r, .inr (0, [.ref j, .int (nI P.dropLast.length)])), (j, .inl (cI, 30, .inl f_15))] H_17 := hP1
      have hD : va_D A [(r, .inr (0, [.ref j, .int (nI P.dropLast.length)])), (j, .inl (cI, 30, .inl f_15))] := hD1
      have hS := hS1
      clear hP1 hD1 hS1
      refine lv_pop hx hb dX2_servePlain_44 rfl ?_
      refine lv_aload_n hx hb dX2_servePlain_45 rfl (lv_at hl 2 rfl) ?_
      refine lv_iload_n hx hb dX2_servePlain_46 rfl (lv_at hl 4 rfl) ?_
      have hPc := hP.sub (ws' := [(r, .inr (0, [.ref j, .int (nI P.dropLast.length)])), (j, .inl (cI, 30, .inl f_15))]) [0, 1] rfl
      have hDc := hD.sub (ws' := [(r, .inr (0, [.ref j, .int (nI P.dropLast.length)])), (j, .inl (cI, 30, .inl f_15))]) [0, 1] (by decide) rfl
      have hKc := hK.sub (tys' := [(cI, .int)]) [0] rfl
      have hFc := va_free (wc := [(r, .inr (0, [.ref j, .int (nI P.dropLast.length)])), (j, .inl (cI, 30, .inl f_15))]) hD hS hA [0, 1] rfl
      refine va_callv (va_runV (As := [.int jar]) (rest := []) ⟨hx, hb, hml, hown, hts⟩ (c_X0_putFirst l G cI r j f_15 P.dropLast hf_16 (by first | omega | (simp only [List.length_cons, List.length_dropLast, List.length_append] at *; omega)) jar (by first | omega | (simp only [List.length_cons, List.length_dropLast, List.length_append] at *; omega)) H_17.size) (cwV 1 hts gX2_servePlain_X0_putFirst rfl rfl rfl (by decide +kernel) ⟨Nat.le_of_ble_eq_true rfl, Nat.le_of_ble_eq_true rfl⟩) (g_preV (As := [.int jar]) hPc hKc hDc 0 rfl rfl) rfl rfl hl.1 rfl (lv_room (Nat.le_of_ble_eq_true rfl)) dX2_servePlain_47 ⟨(Nat.le_of_ble_eq_true rfl), (Nat.le_of_ble_eq_true rfl)⟩) hS (fun q _ h => hFc q h) hFc (fun u_24 t H_22 locs ht hvm hw hB hz1 hk1 hS1 => ?_)
      obtain ⟨f_20, hf_21, hB⟩ := hB
      obtain ⟨hP1, hD1⟩ := g_join (wc := [(r, .inr (0, [.ref j, .int (nI P.dropLast.length)])), (j, .inl (cI, 30, .inl f_15))]) (wr := []) (w1 := [(r, .inr (0, [.ref j, .int (nI ((jar :: P.dropLast).length))])), (j, .inl (cI, 30, .inl f_20))]) hP hD [0, 1] [] rfl rfl (by decide) (by decide) ht hk1 hFc hB
      clear hB hk1 hz1 hvm ht hPc hDc hKc hFc
      clear hP hD hS
      have hP : va_P G vwCl [(r, .inr (0, [.ref j, .int (nI ((jar :: P.dropLast).length))])), (j, .inl (cI, 30, .inl f_20))] H_22 := hP1
      have hD : va_D A [(r, .inr (0, [.ref j, .int (nI ((jar :: P.dropLast).length))])), (j, .inl (cI, 30, .inl f_20))] := hD1
      have hS := hS1
      clear hP1 hD1 hS1
      refine lv_iload hx hb dX2_servePlain_50 (lv_at hl 0 rfl) ?_
      have e9 : (jar :: P.dropLast) = sPl rc P jar := pl_full mj (by omega)
      rw [← e9]
      have hP9 := hP.sub (ws' := [(r, .inr (0, [.ref j, .int (nI ((jar :: P.dropLast).length))])), (j, .inl (cI, 30, .inl f_20))]) [0, 1] rfl
      have hD9 := hD.sub (ws' := [(r, .inr (0, [.ref j, .int (nI ((jar :: P.dropLast).length))])), (j, .inl (cI, 30, .inl f_20))]) [0, 1] (by decide) rfl
      exact W.zret (v := (nI 0)) hx hb hr rfl (fun t ht hW => ⟨⟨(nI 0), (), rfl, (tn_f mj), _, hf_21, g_at hP9 hK hD9 ht hW⟩, hS.F ht⟩) hS.2.2 dX2_servePlain_52
  · have mj : jar ∈ P := pos_in (by omega) c_4
    have mi := idx_lt mj
    have ml : (P.eraseIdx (P.idxOf jar)).length = P.length - 1 := List.length_eraseIdx_of_lt mi
    rw [pos_idx mj] at hl
    refine lv_iconst (v := (nI 1)) hx hb dX2_servePlain_11 (by decide +kernel) ?_
    refine lv_goto (tgt := 16) hx hb dX2_servePlain_12 (by decide) ?_
    refine lv_istore (lv' := [(4, .int (nI 1)), (3, .int (nI (P.idxOf jar))), (0, .ref r), (1, .int (nI rc)), (2, .int jar)]) hx hb dX2_servePlain_16 hl (by decide) rfl (fun ls hl => ?_)
    refine lv_iload hx hb dX2_servePlain_18 (lv_at hl 0 rfl) ?_
    refine g_if_eq (tgt := 32) hx hb dX2_servePlain_20 (by decide) (by decide) (fun c_25 => False.elim (by omega)) (fun c_25 => ?_)
    refine lv_aload_n hx hb dX2_servePlain_23 rfl (lv_at hl 2 rfl) ?_
    refine lv_iload_n hx hb dX2_servePlain_24 rfl (lv_at hl 1 rfl) ?_
    have hPc := hP.sub (ws' := [(r, .inr (0, [.ref j, .int (nI P.length)])), (j, .inl (cI, 30, .inl f5))]) [0, 1] rfl
    have hDc := hD.sub (ws' := [(r, .inr (0, [.ref j, .int (nI P.length)])), (j, .inl (cI, 30, .inl f5))]) [0, 1] (by decide) rfl
    have hKc := hK.sub (tys' := [(cI, .int)]) [0] rfl
    have hFc := va_free (wc := [(r, .inr (0, [.ref j, .int (nI P.length)])), (j, .inl (cI, 30, .inl f5))]) hD hS hA [0, 1] rfl
    refine va_calli (va_runV (As := [.int (nI (P.idxOf jar))]) (rest := []) ⟨hx, hb, hml, hown, hts⟩ (c_X0_takeAt l G cI r j f5 P hR5 (by omega) (P.idxOf jar) (by first | omega | (simp only [List.length_cons, List.length_dropLast, List.length_append] at *; omega)) H_1.size) (cwV 1 hts gX2_servePlain_X0_takeAt rfl rfl rfl (by decide +kernel) ⟨Nat.le_of_ble_eq_true rfl, Nat.le_of_ble_eq_true rfl⟩) (g_preV (As := [.int (nI (P.idxOf jar))]) hPc hKc hDc 0 rfl rfl) rfl rfl hl.1 rfl (lv_room (Nat.le_of_ble_eq_true rfl)) dX2_servePlain_25 ⟨(Nat.le_of_ble_eq_true rfl), (Nat.le_of_ble_eq_true rfl)⟩) hS (fun q _ h => hFc q h) hFc (fun r_29 u_30 t H_28 locs ht hvm hw hB hz1 hk1 hS1 => ?_)
    subst hw
    obtain ⟨f_26, hf_27, hB⟩ := hB
    obtain ⟨hP1, hD1⟩ := g_join (wc := [(r, .inr (0, [.ref j, .int (nI P.length)])), (j, .inl (cI, 30, .inl f5))]) (wr := []) (w1 := [(r, .inr (0, [.ref j, .int (nI ((P.eraseIdx (P.idxOf jar)).length))])), (j, .inl (cI, 30, .inl f_26))]) hP hD [0, 1] [] rfl rfl (by decide) (by decide) ht hk1 hFc hB
    clear hB hk1 hz1 hvm ht hPc hDc hKc hFc
    clear hP hD hS
    have hP : va_P G vwCl [(r, .inr (0, [.ref j, .int (nI ((P.eraseIdx (P.idxOf jar)).length))])), (j, .inl (cI, 30, .inl f_26))] H_28 := hP1
    have hD : va_D A [(r, .inr (0, [.ref j, .int (nI ((P.eraseIdx (P.idxOf jar)).length))])), (j, .inl (cI, 30, .inl f_26))] := hD1
    have hS := hS1
    clear hP1 hD1 hS1
    refine lv_pop hx hb dX2_servePlain_28 rfl ?_
    refine lv_goto (tgt := 45) hx hb dX2_servePlain_29 (by decide) ?_
    refine lv_aload_n hx hb dX2_servePlain_45 rfl (lv_at hl 2 rfl) ?_
    refine lv_iload_n hx hb dX2_servePlain_46 rfl (lv_at hl 4 rfl) ?_
    have hPc := hP.sub (ws' := [(r, .inr (0, [.ref j, .int (nI ((P.eraseIdx (P.idxOf jar)).length))])), (j, .inl (cI, 30, .inl f_26))]) [0, 1] rfl
    have hDc := hD.sub (ws' := [(r, .inr (0, [.ref j, .int (nI ((P.eraseIdx (P.idxOf jar)).length))])), (j, .inl (cI, 30, .inl f_26))]) [0, 1] (by decide) rfl
    have hKc := hK.sub (tys' := [(cI, .int)]) [0] rfl
    have hFc := va_free (wc := [(r, .inr (0, [.ref j, .int (nI ((P.eraseIdx (P.idxOf jar)).length))])), (j, .inl (cI, 30, .inl f_26))]) hD hS hA [0, 1] rfl
    refine va_callv (va_runV (As := [.int jar]) (rest := []) ⟨hx, hb, hml, hown, hts⟩ (c_X0_putFirst l G cI r j f_26 (P.eraseIdx (P.idxOf jar)) hf_27 (by first | omega | (simp only [List.length_cons, List.length_dropLast, List.length_append] at *; omega)) jar (by first | omega | (simp only [List.length_cons, List.length_dropLast, List.length_append] at *; omega)) H_28.size) (cwV 1 hts gX2_servePlain_X0_putFirst rfl rfl rfl (by decide +kernel) ⟨Nat.le_of_ble_eq_true rfl, Nat.le_of_ble_eq_true rfl⟩) (g_preV (As := [.int jar]) hPc hKc hDc 0 rfl rfl) rfl rfl hl.1 rfl (lv_room (Nat.le_of_ble_eq_true rfl)) dX2_servePlain_47 ⟨(Nat.le_of_ble_eq_true rfl), (Nat.le_of_ble_eq_true rfl)⟩) hS (fun q _ h => hFc q h) hFc (fun u_35 t H_33 locs ht hvm hw hB hz1 hk1 hS1 => ?_)
    obtain ⟨f_31, hf_32, hB⟩ := hB
    obtain ⟨hP1, hD1⟩ := g_join (wc := [(r, .inr (0, [.ref j, .int (nI ((P.eraseIdx (P.idxOf jar)).length))])), (j, .inl (cI, 30, .inl f_26))]) (wr := []) (w1 := [(r, .inr (0, [.ref j, .int (nI ((jar :: (P.eraseIdx (P.idxOf jar))).length))])), (j, .inl (cI, 30, .inl f_31))]) hP hD [0, 1] [] rfl rfl (by decide) (by decide) ht hk1 hFc hB
    clear hB hk1 hz1 hvm ht hPc hDc hKc hFc
    clear hP hD hS
    have hP : va_P G vwCl [(r, .inr (0, [.ref j, .int (nI ((jar :: (P.eraseIdx (P.idxOf jar))).length))])), (j, .inl (cI, 30, .inl f_31))] H_33 := hP1
    have hD : va_D A [(r, .inr (0, [.ref j, .int (nI ((jar :: (P.eraseIdx (P.idxOf jar))).length))])), (j, .inl (cI, 30, .inl f_31))] := hD1
    have hS := hS1
    clear hP1 hD1 hS1
    refine lv_iload hx hb dX2_servePlain_50 (lv_at hl 0 rfl) ?_
    have e9 : (jar :: (P.eraseIdx (P.idxOf jar))) = sPl rc P jar := pl_in mj
    rw [← e9]
    have hP9 := hP.sub (ws' := [(r, .inr (0, [.ref j, .int (nI ((jar :: (P.eraseIdx (P.idxOf jar))).length))])), (j, .inl (cI, 30, .inl f_31))]) [0, 1] rfl
    have hD9 := hD.sub (ws' := [(r, .inr (0, [.ref j, .int (nI ((jar :: (P.eraseIdx (P.idxOf jar))).length))])), (j, .inl (cI, 30, .inl f_31))]) [0, 1] (by decide) rfl
    exact W.zret (v := (nI 1)) hx hb hr rfl (fun t ht hW => ⟨⟨(nI 1), (), rfl, (tn_t mj), _, hf_32, g_at hP9 hK hD9 ht hW⟩, hS.F ht⟩) hS.2.2 dX2_servePlain_52
