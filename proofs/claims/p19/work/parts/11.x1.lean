set_option maxHeartbeats 4000000 in
set_option maxRecDepth 100000 in
theorem c_X1_rowAt_0 (l : Launch) (G : va_G) (cI : ClassId) (sh r1 r2 r3 r4 j1 j2 j3 j4 : Nat) (f1 f2 f3 f4 : Nat → Int32) (L1 L2 L3 L4 : List Int32) (rc bo : Nat) (lv : Int32) (hR1 : Rw f1 L1) (hR2 : Rw f2 L2) (hR3 : Rw f3 L3) (hR4 : Rw f4 L4) (sz : Nat) : Met l yX1_rowAt wsX1_rowAt ({ frames := 0, cells := 0, slots := 0, locals := 0 }) (va_Pc [.ref sh, .int (nI 0)] (gpre G [(cI, .int)] [(sh, .inr (1, [.ref r1, .ref r2, .ref r3, .ref r4, .int (nI rc), .int (nI bo), .int lv])), (r1, .inr (0, [.ref j1, .int (nI L1.length)])), (j1, .inl (cI, 30, .inl f1)), (r2, .inr (0, [.ref j2, .int (nI L2.length)])), (j2, .inl (cI, 30, .inl f2)), (r3, .inr (0, [.ref j3, .int (nI L3.length)])), (j3, .inl (cI, 30, .inl f3)), (r4, .inr (0, [.ref j4, .int (nI L4.length)])), (j4, .inl (cI, 30, .inl f4))] sz)) (va_Qq (fun (z : Option Nat) (_ : Unit) => z = none) (fun (_ : Unit) t => gat G [(cI, .int)] (va_A [(sh, .inr (1, [.ref r1, .ref r2, .ref r3, .ref r4, .int (nI rc), .int (nI bo), .int lv])), (r1, .inr (0, [.ref j1, .int (nI L1.length)])), (j1, .inl (cI, 30, .inl f1)), (r2, .inr (0, [.ref j2, .int (nI L2.length)])), (j2, .inl (cI, 30, .inl f2)), (r3, .inr (0, [.ref j3, .int (nI L3.length)])), (j3, .inl (cI, 30, .inl f3)), (r4, .inr (0, [.ref j4, .int (nI L4.length)])), (j4, .inl (cI, 30, .inl f4))] sz) [(sh, .inr (1, [.ref r1, .ref r2, .ref r3, .ref r4, .int (nI rc), .int (nI bo), .int lv])), (r1, .inr (0, [.ref j1, .int (nI L1.length)])), (j1, .inl (cI, 30, .inl f1)), (r2, .inr (0, [.ref j2, .int (nI L2.length)])), (j2, .inl (cI, 30, .inl f2)), (r3, .inr (0, [.ref j3, .int (nI L3.length)])), (j3, .inl (cI, 30, .inl f3)), (r4, .inr (0, [.ref j4, .int (nI L4.length)])), (j4, .inl (cI, 30, .inl f4))] t) (va_A [(sh, .inr (1, [.ref r1, .ref r2, .ref r3, .ref r4, .int (nI rc), .int (nI bo), .int lv])), (r1, .inr (0, [.ref j1, .int (nI L1.length)])), (j1, .inl (cI, 30, .inl f1)), (r2, .inr (0, [.ref j2, .int (nI L2.length)])), (j2, .inl (cI, 30, .inl f2)), (r3, .inr (0, [.ref j3, .int (nI L3.length)])), (j3, .inl (cI, 30, .inl f3)), (r4, .inr (0, [.ref j4, .int (nI L4.length)])), (j4, .inl (cI, 30, .inl f4))] sz)) 0 0 (va_A [(sh, .inr (1, [.ref r1, .ref r2, .ref r3, .ref r4, .int (nI rc), .int (nI bo), .int lv])), (r1, .inr (0, [.ref j1, .int (nI L1.length)])), (j1, .inl (cI, 30, .inl f1)), (r2, .inr (0, [.ref j2, .int (nI L2.length)])), (j2, .inl (cI, 30, .inl f2)), (r3, .inr (0, [.ref j3, .int (nI L3.length)])), (j3, .inl (cI, 30, .inl f3)), (r4, .inr (0, [.ref j4, .int (nI L4.length)])), (j4, .inl (cI, 30, .inl f4))] sz) := by
  refine Met.ofW (cc := cX1_rowAt) (maxL := 2) (ret := (some (.object "GhostPantry$Row"))) (by decide) rfl ?_
  intro p e s m args below meth c s₁ B hml hv
  obtain ⟨rfl, hsz, hP, hK, hD0⟩ := hv
  have hx := B.exec
  have hb := B.bytes
  have hr := B.returns
  have hts := atoms_spec (ws := wsX1_rowAt) B.pre
  have hown : s.vm.findClass RX1 = some m.cls := findClass_of_methodNamed B.named
  have hlocks := B.notSynchronized
  subst hsz
  have hD := hD0.self (sz := s.heap.size)
  clear hD0
  generalize hAe : va_A [(sh, .inr (1, [.ref r1, .ref r2, .ref r3, .ref r4, .int (nI rc), .int (nI bo), .int lv])), (r1, .inr (0, [.ref j1, .int (nI L1.length)])), (j1, .inl (cI, 30, .inl f1)), (r2, .inr (0, [.ref j2, .int (nI L2.length)])), (j2, .inl (cI, 30, .inl f2)), (r3, .inr (0, [.ref j3, .int (nI L3.length)])), (j3, .inl (cI, 30, .inl f3)), (r4, .inr (0, [.ref j4, .int (nI L4.length)])), (j4, .inl (cI, 30, .inl f4))] s.heap.size = A at hD ⊢
  have hA : ∀ q : Nat, s.heap.size ≤ q → A q := fun q h => by rw [← hAe]; exact Or.inr h
  have hS : va_S A s.heap s.heap [] := va_S.rf
  have hP : va_P G vwCl [(sh, .inr (1, [.ref r1, .ref r2, .ref r3, .ref r4, .int (nI rc), .int (nI bo), .int lv])), (r1, .inr (0, [.ref j1, .int (nI L1.length)])), (j1, .inl (cI, 30, .inl f1)), (r2, .inr (0, [.ref j2, .int (nI L2.length)])), (j2, .inl (cI, 30, .inl f2)), (r3, .inr (0, [.ref j3, .int (nI L3.length)])), (j3, .inl (cI, 30, .inl f3)), (r4, .inr (0, [.ref j4, .int (nI L4.length)])), (j4, .inl (cI, 30, .inl f4))] s.heap := hP
  have hl := lv_entry ([.ref sh, .int (nI 0)]) (n := 2) (Nat.le_of_ble_eq_true rfl)
  rw [lg_entry_eq]
  generalize (lg_sl ([.ref sh, .int (nI 0)]) ++ List.replicate (2 - (lg_sl ([.ref sh, .int (nI 0)])).length) Slot.unset).toArray = ls at hl ⊢
  have hl : lv_has ls 2 [(0, .ref sh), (1, .int (nI 0))] := hl
  refine lv_iload_n hx hb dX1_rowAt_0 rfl (lv_at hl 1 rfl) ?_
  refine lv_tableOut (tgt := 52) hx hb dX1_rowAt_1 (by decide +kernel) (by decide) ?_
  refine lv_null hx hb dX1_rowAt_52 ?_
  have hP9 := hP.sub (ws' := [(sh, .inr (1, [.ref r1, .ref r2, .ref r3, .ref r4, .int (nI rc), .int (nI bo), .int lv])), (r1, .inr (0, [.ref j1, .int (nI L1.length)])), (j1, .inl (cI, 30, .inl f1)), (r2, .inr (0, [.ref j2, .int (nI L2.length)])), (j2, .inl (cI, 30, .inl f2)), (r3, .inr (0, [.ref j3, .int (nI L3.length)])), (j3, .inl (cI, 30, .inl f3)), (r4, .inr (0, [.ref j4, .int (nI L4.length)])), (j4, .inl (cI, 30, .inl f4))]) [0, 1, 2, 3, 4, 5, 6, 7, 8] rfl
  have hD9 := hD.sub (ws' := [(sh, .inr (1, [.ref r1, .ref r2, .ref r3, .ref r4, .int (nI rc), .int (nI bo), .int lv])), (r1, .inr (0, [.ref j1, .int (nI L1.length)])), (j1, .inl (cI, 30, .inl f1)), (r2, .inr (0, [.ref j2, .int (nI L2.length)])), (j2, .inl (cI, 30, .inl f2)), (r3, .inr (0, [.ref j3, .int (nI L3.length)])), (j3, .inl (cI, 30, .inl f3)), (r4, .inr (0, [.ref j4, .int (nI L4.length)])), (j4, .inl (cI, 30, .inl f4))]) [0, 1, 2, 3, 4, 5, 6, 7, 8] (by decide) rfl
  exact W.aret (v := .null) hx hb hr (Or.inl ⟨_, rfl⟩) (Or.inl rfl) (fun t ht hW => ⟨⟨none, (), rfl, rfl, g_at hP9 hK hD9 ht hW⟩, hS.F ht⟩) hS.2.2 dX1_rowAt_53

set_option maxRecDepth 20000 in
theorem iX1_rowAt_X1 : ∀ w ∈ wsX10, w ∈ wsX1_rowAt := by decide +kernel
set_option maxHeartbeats 4000000 in
set_option maxRecDepth 100000 in
theorem c_X1_rowAt_1 (l : Launch) (G : va_G) (cI : ClassId) (sh r1 r2 r3 r4 j1 j2 j3 j4 : Nat) (f1 f2 f3 f4 : Nat → Int32) (L1 L2 L3 L4 : List Int32) (rc bo : Nat) (lv : Int32) (hR1 : Rw f1 L1) (hR2 : Rw f2 L2) (hR3 : Rw f3 L3) (hR4 : Rw f4 L4) (sz : Nat) : Met l yX1_rowAt wsX1_rowAt ({ frames := 0, cells := 0, slots := 0, locals := 0 }) (va_Pc [.ref sh, .int (nI 1)] (gpre G [(cI, .int)] [(sh, .inr (1, [.ref r1, .ref r2, .ref r3, .ref r4, .int (nI rc), .int (nI bo), .int lv])), (r1, .inr (0, [.ref j1, .int (nI L1.length)])), (j1, .inl (cI, 30, .inl f1)), (r2, .inr (0, [.ref j2, .int (nI L2.length)])), (j2, .inl (cI, 30, .inl f2)), (r3, .inr (0, [.ref j3, .int (nI L3.length)])), (j3, .inl (cI, 30, .inl f3)), (r4, .inr (0, [.ref j4, .int (nI L4.length)])), (j4, .inl (cI, 30, .inl f4))] sz)) (va_Qq (fun (z : Option Nat) (_ : Unit) => z = (some r1)) (fun (_ : Unit) t => gat G [(cI, .int)] (va_A [(sh, .inr (1, [.ref r1, .ref r2, .ref r3, .ref r4, .int (nI rc), .int (nI bo), .int lv])), (r1, .inr (0, [.ref j1, .int (nI L1.length)])), (j1, .inl (cI, 30, .inl f1)), (r2, .inr (0, [.ref j2, .int (nI L2.length)])), (j2, .inl (cI, 30, .inl f2)), (r3, .inr (0, [.ref j3, .int (nI L3.length)])), (j3, .inl (cI, 30, .inl f3)), (r4, .inr (0, [.ref j4, .int (nI L4.length)])), (j4, .inl (cI, 30, .inl f4))] sz) [(sh, .inr (1, [.ref r1, .ref r2, .ref r3, .ref r4, .int (nI rc), .int (nI bo), .int lv])), (r1, .inr (0, [.ref j1, .int (nI L1.length)])), (j1, .inl (cI, 30, .inl f1)), (r2, .inr (0, [.ref j2, .int (nI L2.length)])), (j2, .inl (cI, 30, .inl f2)), (r3, .inr (0, [.ref j3, .int (nI L3.length)])), (j3, .inl (cI, 30, .inl f3)), (r4, .inr (0, [.ref j4, .int (nI L4.length)])), (j4, .inl (cI, 30, .inl f4))] t) (va_A [(sh, .inr (1, [.ref r1, .ref r2, .ref r3, .ref r4, .int (nI rc), .int (nI bo), .int lv])), (r1, .inr (0, [.ref j1, .int (nI L1.length)])), (j1, .inl (cI, 30, .inl f1)), (r2, .inr (0, [.ref j2, .int (nI L2.length)])), (j2, .inl (cI, 30, .inl f2)), (r3, .inr (0, [.ref j3, .int (nI L3.length)])), (j3, .inl (cI, 30, .inl f3)), (r4, .inr (0, [.ref j4, .int (nI L4.length)])), (j4, .inl (cI, 30, .inl f4))] sz)) 0 0 (va_A [(sh, .inr (1, [.ref r1, .ref r2, .ref r3, .ref r4, .int (nI rc), .int (nI bo), .int lv])), (r1, .inr (0, [.ref j1, .int (nI L1.length)])), (j1, .inl (cI, 30, .inl f1)), (r2, .inr (0, [.ref j2, .int (nI L2.length)])), (j2, .inl (cI, 30, .inl f2)), (r3, .inr (0, [.ref j3, .int (nI L3.length)])), (j3, .inl (cI, 30, .inl f3)), (r4, .inr (0, [.ref j4, .int (nI L4.length)])), (j4, .inl (cI, 30, .inl f4))] sz) := by
  refine Met.ofW (cc := cX1_rowAt) (maxL := 2) (ret := (some (.object "GhostPantry$Row"))) (by decide) rfl ?_
  intro p e s m args below meth c s₁ B hml hv
  obtain ⟨rfl, hsz, hP, hK, hD0⟩ := hv
  have hx := B.exec
  have hb := B.bytes
  have hr := B.returns
  have hts := atoms_spec (ws := wsX1_rowAt) B.pre
  have hown : s.vm.findClass RX1 = some m.cls := findClass_of_methodNamed B.named
  have hlocks := B.notSynchronized
  subst hsz
  have hD := hD0.self (sz := s.heap.size)
  clear hD0
  generalize hAe : va_A [(sh, .inr (1, [.ref r1, .ref r2, .ref r3, .ref r4, .int (nI rc), .int (nI bo), .int lv])), (r1, .inr (0, [.ref j1, .int (nI L1.length)])), (j1, .inl (cI, 30, .inl f1)), (r2, .inr (0, [.ref j2, .int (nI L2.length)])), (j2, .inl (cI, 30, .inl f2)), (r3, .inr (0, [.ref j3, .int (nI L3.length)])), (j3, .inl (cI, 30, .inl f3)), (r4, .inr (0, [.ref j4, .int (nI L4.length)])), (j4, .inl (cI, 30, .inl f4))] s.heap.size = A at hD ⊢
  have hA : ∀ q : Nat, s.heap.size ≤ q → A q := fun q h => by rw [← hAe]; exact Or.inr h
  have hS : va_S A s.heap s.heap [] := va_S.rf
  have hP : va_P G vwCl [(sh, .inr (1, [.ref r1, .ref r2, .ref r3, .ref r4, .int (nI rc), .int (nI bo), .int lv])), (r1, .inr (0, [.ref j1, .int (nI L1.length)])), (j1, .inl (cI, 30, .inl f1)), (r2, .inr (0, [.ref j2, .int (nI L2.length)])), (j2, .inl (cI, 30, .inl f2)), (r3, .inr (0, [.ref j3, .int (nI L3.length)])), (j3, .inl (cI, 30, .inl f3)), (r4, .inr (0, [.ref j4, .int (nI L4.length)])), (j4, .inl (cI, 30, .inl f4))] s.heap := hP
  have hl := lv_entry ([.ref sh, .int (nI 1)]) (n := 2) (Nat.le_of_ble_eq_true rfl)
  rw [lg_entry_eq]
  generalize (lg_sl ([.ref sh, .int (nI 1)]) ++ List.replicate (2 - (lg_sl ([.ref sh, .int (nI 1)])).length) Slot.unset).toArray = ls at hl ⊢
  have hl : lv_has ls 2 [(0, .ref sh), (1, .int (nI 1))] := hl
  refine lv_iload_n hx hb dX1_rowAt_0 rfl (lv_at hl 1 rfl) ?_
  refine lv_tableIn (off := 31) (tgt := 32) hx hb dX1_rowAt_1 (by decide +kernel) (by decide +kernel) (by decide +kernel) (by decide) ?_
  refine lv_aload_n hx hb dX1_rowAt_32 rfl (lv_at hl 0 rfl) ?_
  refine va_get (D := G) (ci := 1) (v := .ref r1) (C := RX1) (T := TX1) (N := 7) hx hb hts iX1_rowAt_X1 hown hK hP 0 rfl rfl 0 (by decide) (hts (.fieldLink RX1 14 "GhostPantry$Shelves" "recent" "LGhostPantry$Row;") (by decide +kernel)) (fun _ h9 => h9) rfl dX1_rowAt_33 ?_
  have hP9 := hP.sub (ws' := [(sh, .inr (1, [.ref r1, .ref r2, .ref r3, .ref r4, .int (nI rc), .int (nI bo), .int lv])), (r1, .inr (0, [.ref j1, .int (nI L1.length)])), (j1, .inl (cI, 30, .inl f1)), (r2, .inr (0, [.ref j2, .int (nI L2.length)])), (j2, .inl (cI, 30, .inl f2)), (r3, .inr (0, [.ref j3, .int (nI L3.length)])), (j3, .inl (cI, 30, .inl f3)), (r4, .inr (0, [.ref j4, .int (nI L4.length)])), (j4, .inl (cI, 30, .inl f4))]) [0, 1, 2, 3, 4, 5, 6, 7, 8] rfl
  have hD9 := hD.sub (ws' := [(sh, .inr (1, [.ref r1, .ref r2, .ref r3, .ref r4, .int (nI rc), .int (nI bo), .int lv])), (r1, .inr (0, [.ref j1, .int (nI L1.length)])), (j1, .inl (cI, 30, .inl f1)), (r2, .inr (0, [.ref j2, .int (nI L2.length)])), (j2, .inl (cI, 30, .inl f2)), (r3, .inr (0, [.ref j3, .int (nI L3.length)])), (j3, .inl (cI, 30, .inl f3)), (r4, .inr (0, [.ref j4, .int (nI L4.length)])), (j4, .inl (cI, 30, .inl f4))]) [0, 1, 2, 3, 4, 5, 6, 7, 8] (by decide) rfl
  exact W.aret (v := .ref r1) hx hb hr (Or.inl ⟨_, rfl⟩) (Or.inr ⟨_, rfl⟩) (fun t ht hW => ⟨⟨(some r1), (), rfl, rfl, g_at hP9 hK hD9 ht hW⟩, hS.F ht⟩) hS.2.2 dX1_rowAt_36

set_option maxHeartbeats 4000000 in
set_option maxRecDepth 100000 in
theorem c_X1_rowAt_2 (l : Launch) (G : va_G) (cI : ClassId) (sh r1 r2 r3 r4 j1 j2 j3 j4 : Nat) (f1 f2 f3 f4 : Nat → Int32) (L1 L2 L3 L4 : List Int32) (rc bo : Nat) (lv : Int32) (hR1 : Rw f1 L1) (hR2 : Rw f2 L2) (hR3 : Rw f3 L3) (hR4 : Rw f4 L4) (sz : Nat) : Met l yX1_rowAt wsX1_rowAt ({ frames := 0, cells := 0, slots := 0, locals := 0 }) (va_Pc [.ref sh, .int (nI 2)] (gpre G [(cI, .int)] [(sh, .inr (1, [.ref r1, .ref r2, .ref r3, .ref r4, .int (nI rc), .int (nI bo), .int lv])), (r1, .inr (0, [.ref j1, .int (nI L1.length)])), (j1, .inl (cI, 30, .inl f1)), (r2, .inr (0, [.ref j2, .int (nI L2.length)])), (j2, .inl (cI, 30, .inl f2)), (r3, .inr (0, [.ref j3, .int (nI L3.length)])), (j3, .inl (cI, 30, .inl f3)), (r4, .inr (0, [.ref j4, .int (nI L4.length)])), (j4, .inl (cI, 30, .inl f4))] sz)) (va_Qq (fun (z : Option Nat) (_ : Unit) => z = (some r2)) (fun (_ : Unit) t => gat G [(cI, .int)] (va_A [(sh, .inr (1, [.ref r1, .ref r2, .ref r3, .ref r4, .int (nI rc), .int (nI bo), .int lv])), (r1, .inr (0, [.ref j1, .int (nI L1.length)])), (j1, .inl (cI, 30, .inl f1)), (r2, .inr (0, [.ref j2, .int (nI L2.length)])), (j2, .inl (cI, 30, .inl f2)), (r3, .inr (0, [.ref j3, .int (nI L3.length)])), (j3, .inl (cI, 30, .inl f3)), (r4, .inr (0, [.ref j4, .int (nI L4.length)])), (j4, .inl (cI, 30, .inl f4))] sz) [(sh, .inr (1, [.ref r1, .ref r2, .ref r3, .ref r4, .int (nI rc), .int (nI bo), .int lv])), (r1, .inr (0, [.ref j1, .int (nI L1.length)])), (j1, .inl (cI, 30, .inl f1)), (r2, .inr (0, [.ref j2, .int (nI L2.length)])), (j2, .inl (cI, 30, .inl f2)), (r3, .inr (0, [.ref j3, .int (nI L3.length)])), (j3, .inl (cI, 30, .inl f3)), (r4, .inr (0, [.ref j4, .int (nI L4.length)])), (j4, .inl (cI, 30, .inl f4))] t) (va_A [(sh, .inr (1, [.ref r1, .ref r2, .ref r3, .ref r4, .int (nI rc), .int (nI bo), .int lv])), (r1, .inr (0, [.ref j1, .int (nI L1.length)])), (j1, .inl (cI, 30, .inl f1)), (r2, .inr (0, [.ref j2, .int (nI L2.length)])), (j2, .inl (cI, 30, .inl f2)), (r3, .inr (0, [.ref j3, .int (nI L3.length)])), (j3, .inl (cI, 30, .inl f3)), (r4, .inr (0, [.ref j4, .int (nI L4.length)])), (j4, .inl (cI, 30, .inl f4))] sz)) 0 0 (va_A [(sh, .inr (1, [.ref r1, .ref r2, .ref r3, .ref r4, .int (nI rc), .int (nI bo), .int lv])), (r1, .inr (0, [.ref j1, .int (nI L1.length)])), (j1, .inl (cI, 30, .inl f1)), (r2, .inr (0, [.ref j2, .int (nI L2.length)])), (j2, .inl (cI, 30, .inl f2)), (r3, .inr (0, [.ref j3, .int (nI L3.length)])), (j3, .inl (cI, 30, .inl f3)), (r4, .inr (0, [.ref j4, .int (nI L4.length)])), (j4, .inl (cI, 30, .inl f4))] sz) := by
  refine Met.ofW (cc := cX1_rowAt) (maxL := 2) (ret := (some (.object "GhostPantry$Row"))) (by decide) rfl ?_
  intro p e s m args below meth c s₁ B hml hv
  obtain ⟨rfl, hsz, hP, hK, hD0⟩ := hv
  have hx := B.exec
  have hb := B.bytes
  have hr := B.returns
  have hts := atoms_spec (ws := wsX1_rowAt) B.pre
  have hown : s.vm.findClass RX1 = some m.cls := findClass_of_methodNamed B.named
  have hlocks := B.notSynchronized
  subst hsz
  have hD := hD0.self (sz := s.heap.size)
  clear hD0
  generalize hAe : va_A [(sh, .inr (1, [.ref r1, .ref r2, .ref r3, .ref r4, .int (nI rc), .int (nI bo), .int lv])), (r1, .inr (0, [.ref j1, .int (nI L1.length)])), (j1, .inl (cI, 30, .inl f1)), (r2, .inr (0, [.ref j2, .int (nI L2.length)])), (j2, .inl (cI, 30, .inl f2)), (r3, .inr (0, [.ref j3, .int (nI L3.length)])), (j3, .inl (cI, 30, .inl f3)), (r4, .inr (0, [.ref j4, .int (nI L4.length)])), (j4, .inl (cI, 30, .inl f4))] s.heap.size = A at hD ⊢
  have hA : ∀ q : Nat, s.heap.size ≤ q → A q := fun q h => by rw [← hAe]; exact Or.inr h
  have hS : va_S A s.heap s.heap [] := va_S.rf
  have hP : va_P G vwCl [(sh, .inr (1, [.ref r1, .ref r2, .ref r3, .ref r4, .int (nI rc), .int (nI bo), .int lv])), (r1, .inr (0, [.ref j1, .int (nI L1.length)])), (j1, .inl (cI, 30, .inl f1)), (r2, .inr (0, [.ref j2, .int (nI L2.length)])), (j2, .inl (cI, 30, .inl f2)), (r3, .inr (0, [.ref j3, .int (nI L3.length)])), (j3, .inl (cI, 30, .inl f3)), (r4, .inr (0, [.ref j4, .int (nI L4.length)])), (j4, .inl (cI, 30, .inl f4))] s.heap := hP
  have hl := lv_entry ([.ref sh, .int (nI 2)]) (n := 2) (Nat.le_of_ble_eq_true rfl)
  rw [lg_entry_eq]
  generalize (lg_sl ([.ref sh, .int (nI 2)]) ++ List.replicate (2 - (lg_sl ([.ref sh, .int (nI 2)])).length) Slot.unset).toArray = ls at hl ⊢
  have hl : lv_has ls 2 [(0, .ref sh), (1, .int (nI 2))] := hl
  refine lv_iload_n hx hb dX1_rowAt_0 rfl (lv_at hl 1 rfl) ?_
  refine lv_tableIn (off := 36) (tgt := 37) hx hb dX1_rowAt_1 (by decide +kernel) (by decide +kernel) (by decide +kernel) (by decide) ?_
  refine lv_aload_n hx hb dX1_rowAt_37 rfl (lv_at hl 0 rfl) ?_
  refine va_get (D := G) (ci := 1) (v := .ref r2) (C := RX1) (T := TX1) (N := 7) hx hb hts iX1_rowAt_X1 hown hK hP 0 rfl rfl 1 (by decide) (hts (.fieldLink RX1 20 "GhostPantry$Shelves" "frequent" "LGhostPantry$Row;") (by decide +kernel)) (fun _ h9 => h9) rfl dX1_rowAt_38 ?_
  have hP9 := hP.sub (ws' := [(sh, .inr (1, [.ref r1, .ref r2, .ref r3, .ref r4, .int (nI rc), .int (nI bo), .int lv])), (r1, .inr (0, [.ref j1, .int (nI L1.length)])), (j1, .inl (cI, 30, .inl f1)), (r2, .inr (0, [.ref j2, .int (nI L2.length)])), (j2, .inl (cI, 30, .inl f2)), (r3, .inr (0, [.ref j3, .int (nI L3.length)])), (j3, .inl (cI, 30, .inl f3)), (r4, .inr (0, [.ref j4, .int (nI L4.length)])), (j4, .inl (cI, 30, .inl f4))]) [0, 1, 2, 3, 4, 5, 6, 7, 8] rfl
  have hD9 := hD.sub (ws' := [(sh, .inr (1, [.ref r1, .ref r2, .ref r3, .ref r4, .int (nI rc), .int (nI bo), .int lv])), (r1, .inr (0, [.ref j1, .int (nI L1.length)])), (j1, .inl (cI, 30, .inl f1)), (r2, .inr (0, [.ref j2, .int (nI L2.length)])), (j2, .inl (cI, 30, .inl f2)), (r3, .inr (0, [.ref j3, .int (nI L3.length)])), (j3, .inl (cI, 30, .inl f3)), (r4, .inr (0, [.ref j4, .int (nI L4.length)])), (j4, .inl (cI, 30, .inl f4))]) [0, 1, 2, 3, 4, 5, 6, 7, 8] (by decide) rfl
  exact W.aret (v := .ref r2) hx hb hr (Or.inl ⟨_, rfl⟩) (Or.inr ⟨_, rfl⟩) (fun t ht hW => ⟨⟨(some r2), (), rfl, rfl, g_at hP9 hK hD9 ht hW⟩, hS.F ht⟩) hS.2.2 dX1_rowAt_41

set_option maxHeartbeats 4000000 in
set_option maxRecDepth 100000 in
theorem c_X1_rowAt_3 (l : Launch) (G : va_G) (cI : ClassId) (sh r1 r2 r3 r4 j1 j2 j3 j4 : Nat) (f1 f2 f3 f4 : Nat → Int32) (L1 L2 L3 L4 : List Int32) (rc bo : Nat) (lv : Int32) (hR1 : Rw f1 L1) (hR2 : Rw f2 L2) (hR3 : Rw f3 L3) (hR4 : Rw f4 L4) (sz : Nat) : Met l yX1_rowAt wsX1_rowAt ({ frames := 0, cells := 0, slots := 0, locals := 0 }) (va_Pc [.ref sh, .int (nI 3)] (gpre G [(cI, .int)] [(sh, .inr (1, [.ref r1, .ref r2, .ref r3, .ref r4, .int (nI rc), .int (nI bo), .int lv])), (r1, .inr (0, [.ref j1, .int (nI L1.length)])), (j1, .inl (cI, 30, .inl f1)), (r2, .inr (0, [.ref j2, .int (nI L2.length)])), (j2, .inl (cI, 30, .inl f2)), (r3, .inr (0, [.ref j3, .int (nI L3.length)])), (j3, .inl (cI, 30, .inl f3)), (r4, .inr (0, [.ref j4, .int (nI L4.length)])), (j4, .inl (cI, 30, .inl f4))] sz)) (va_Qq (fun (z : Option Nat) (_ : Unit) => z = (some r3)) (fun (_ : Unit) t => gat G [(cI, .int)] (va_A [(sh, .inr (1, [.ref r1, .ref r2, .ref r3, .ref r4, .int (nI rc), .int (nI bo), .int lv])), (r1, .inr (0, [.ref j1, .int (nI L1.length)])), (j1, .inl (cI, 30, .inl f1)), (r2, .inr (0, [.ref j2, .int (nI L2.length)])), (j2, .inl (cI, 30, .inl f2)), (r3, .inr (0, [.ref j3, .int (nI L3.length)])), (j3, .inl (cI, 30, .inl f3)), (r4, .inr (0, [.ref j4, .int (nI L4.length)])), (j4, .inl (cI, 30, .inl f4))] sz) [(sh, .inr (1, [.ref r1, .ref r2, .ref r3, .ref r4, .int (nI rc), .int (nI bo), .int lv])), (r1, .inr (0, [.ref j1, .int (nI L1.length)])), (j1, .inl (cI, 30, .inl f1)), (r2, .inr (0, [.ref j2, .int (nI L2.length)])), (j2, .inl (cI, 30, .inl f2)), (r3, .inr (0, [.ref j3, .int (nI L3.length)])), (j3, .inl (cI, 30, .inl f3)), (r4, .inr (0, [.ref j4, .int (nI L4.length)])), (j4, .inl (cI, 30, .inl f4))] t) (va_A [(sh, .inr (1, [.ref r1, .ref r2, .ref r3, .ref r4, .int (nI rc), .int (nI bo), .int lv])), (r1, .inr (0, [.ref j1, .int (nI L1.length)])), (j1, .inl (cI, 30, .inl f1)), (r2, .inr (0, [.ref j2, .int (nI L2.length)])), (j2, .inl (cI, 30, .inl f2)), (r3, .inr (0, [.ref j3, .int (nI L3.length)])), (j3, .inl (cI, 30, .inl f3)), (r4, .inr (0, [.ref j4, .int (nI L4.length)])), (j4, .inl (cI, 30, .inl f4))] sz)) 0 0 (va_A [(sh, .inr (1, [.ref r1, .ref r2, .ref r3, .ref r4, .int (nI rc), .int (nI bo), .int lv])), (r1, .inr (0, [.ref j1, .int (nI L1.length)])), (j1, .inl (cI, 30, .inl f1)), (r2, .inr (0, [.ref j2, .int (nI L2.length)])), (j2, .inl (cI, 30, .inl f2)), (r3, .inr (0, [.ref j3, .int (nI L3.length)])), (j3, .inl (cI, 30, .inl f3)), (r4, .inr (0, [.ref j4, .int (nI L4.length)])), (j4, .inl (cI, 30, .inl f4))] sz) := by
  refine Met.ofW (cc := cX1_rowAt) (maxL := 2) (ret := (some (.object "GhostPantry$Row"))) (by decide) rfl ?_
  intro p e s m args below meth c s₁ B hml hv
  obtain ⟨rfl, hsz, hP, hK, hD0⟩ := hv
  have hx := B.exec
  have hb := B.bytes
  have hr := B.returns
  have hts := atoms_spec (ws := wsX1_rowAt) B.pre
  have hown : s.vm.findClass RX1 = some m.cls := findClass_of_methodNamed B.named
  have hlocks := B.notSynchronized
  subst hsz
  have hD := hD0.self (sz := s.heap.size)
  clear hD0
  generalize hAe : va_A [(sh, .inr (1, [.ref r1, .ref r2, .ref r3, .ref r4, .int (nI rc), .int (nI bo), .int lv])), (r1, .inr (0, [.ref j1, .int (nI L1.length)])), (j1, .inl (cI, 30, .inl f1)), (r2, .inr (0, [.ref j2, .int (nI L2.length)])), (j2, .inl (cI, 30, .inl f2)), (r3, .inr (0, [.ref j3, .int (nI L3.length)])), (j3, .inl (cI, 30, .inl f3)), (r4, .inr (0, [.ref j4, .int (nI L4.length)])), (j4, .inl (cI, 30, .inl f4))] s.heap.size = A at hD ⊢
  have hA : ∀ q : Nat, s.heap.size ≤ q → A q := fun q h => by rw [← hAe]; exact Or.inr h
  have hS : va_S A s.heap s.heap [] := va_S.rf
  have hP : va_P G vwCl [(sh, .inr (1, [.ref r1, .ref r2, .ref r3, .ref r4, .int (nI rc), .int (nI bo), .int lv])), (r1, .inr (0, [.ref j1, .int (nI L1.length)])), (j1, .inl (cI, 30, .inl f1)), (r2, .inr (0, [.ref j2, .int (nI L2.length)])), (j2, .inl (cI, 30, .inl f2)), (r3, .inr (0, [.ref j3, .int (nI L3.length)])), (j3, .inl (cI, 30, .inl f3)), (r4, .inr (0, [.ref j4, .int (nI L4.length)])), (j4, .inl (cI, 30, .inl f4))] s.heap := hP
  have hl := lv_entry ([.ref sh, .int (nI 3)]) (n := 2) (Nat.le_of_ble_eq_true rfl)
  rw [lg_entry_eq]
  generalize (lg_sl ([.ref sh, .int (nI 3)]) ++ List.replicate (2 - (lg_sl ([.ref sh, .int (nI 3)])).length) Slot.unset).toArray = ls at hl ⊢
  have hl : lv_has ls 2 [(0, .ref sh), (1, .int (nI 3))] := hl
  refine lv_iload_n hx hb dX1_rowAt_0 rfl (lv_at hl 1 rfl) ?_
  refine lv_tableIn (off := 41) (tgt := 42) hx hb dX1_rowAt_1 (by decide +kernel) (by decide +kernel) (by decide +kernel) (by decide) ?_
  refine lv_aload_n hx hb dX1_rowAt_42 rfl (lv_at hl 0 rfl) ?_
  refine va_get (D := G) (ci := 1) (v := .ref r3) (C := RX1) (T := TX1) (N := 7) hx hb hts iX1_rowAt_X1 hown hK hP 0 rfl rfl 2 (by decide) (hts (.fieldLink RX1 23 "GhostPantry$Shelves" "recentGhosts" "LGhostPantry$Row;") (by decide +kernel)) (fun _ h9 => h9) rfl dX1_rowAt_43 ?_
  have hP9 := hP.sub (ws' := [(sh, .inr (1, [.ref r1, .ref r2, .ref r3, .ref r4, .int (nI rc), .int (nI bo), .int lv])), (r1, .inr (0, [.ref j1, .int (nI L1.length)])), (j1, .inl (cI, 30, .inl f1)), (r2, .inr (0, [.ref j2, .int (nI L2.length)])), (j2, .inl (cI, 30, .inl f2)), (r3, .inr (0, [.ref j3, .int (nI L3.length)])), (j3, .inl (cI, 30, .inl f3)), (r4, .inr (0, [.ref j4, .int (nI L4.length)])), (j4, .inl (cI, 30, .inl f4))]) [0, 1, 2, 3, 4, 5, 6, 7, 8] rfl
  have hD9 := hD.sub (ws' := [(sh, .inr (1, [.ref r1, .ref r2, .ref r3, .ref r4, .int (nI rc), .int (nI bo), .int lv])), (r1, .inr (0, [.ref j1, .int (nI L1.length)])), (j1, .inl (cI, 30, .inl f1)), (r2, .inr (0, [.ref j2, .int (nI L2.length)])), (j2, .inl (cI, 30, .inl f2)), (r3, .inr (0, [.ref j3, .int (nI L3.length)])), (j3, .inl (cI, 30, .inl f3)), (r4, .inr (0, [.ref j4, .int (nI L4.length)])), (j4, .inl (cI, 30, .inl f4))]) [0, 1, 2, 3, 4, 5, 6, 7, 8] (by decide) rfl
  exact W.aret (v := .ref r3) hx hb hr (Or.inl ⟨_, rfl⟩) (Or.inr ⟨_, rfl⟩) (fun t ht hW => ⟨⟨(some r3), (), rfl, rfl, g_at hP9 hK hD9 ht hW⟩, hS.F ht⟩) hS.2.2 dX1_rowAt_46

set_option maxHeartbeats 4000000 in
set_option maxRecDepth 100000 in
theorem c_X1_rowAt_4 (l : Launch) (G : va_G) (cI : ClassId) (sh r1 r2 r3 r4 j1 j2 j3 j4 : Nat) (f1 f2 f3 f4 : Nat → Int32) (L1 L2 L3 L4 : List Int32) (rc bo : Nat) (lv : Int32) (hR1 : Rw f1 L1) (hR2 : Rw f2 L2) (hR3 : Rw f3 L3) (hR4 : Rw f4 L4) (sz : Nat) : Met l yX1_rowAt wsX1_rowAt ({ frames := 0, cells := 0, slots := 0, locals := 0 }) (va_Pc [.ref sh, .int (nI 4)] (gpre G [(cI, .int)] [(sh, .inr (1, [.ref r1, .ref r2, .ref r3, .ref r4, .int (nI rc), .int (nI bo), .int lv])), (r1, .inr (0, [.ref j1, .int (nI L1.length)])), (j1, .inl (cI, 30, .inl f1)), (r2, .inr (0, [.ref j2, .int (nI L2.length)])), (j2, .inl (cI, 30, .inl f2)), (r3, .inr (0, [.ref j3, .int (nI L3.length)])), (j3, .inl (cI, 30, .inl f3)), (r4, .inr (0, [.ref j4, .int (nI L4.length)])), (j4, .inl (cI, 30, .inl f4))] sz)) (va_Qq (fun (z : Option Nat) (_ : Unit) => z = (some r4)) (fun (_ : Unit) t => gat G [(cI, .int)] (va_A [(sh, .inr (1, [.ref r1, .ref r2, .ref r3, .ref r4, .int (nI rc), .int (nI bo), .int lv])), (r1, .inr (0, [.ref j1, .int (nI L1.length)])), (j1, .inl (cI, 30, .inl f1)), (r2, .inr (0, [.ref j2, .int (nI L2.length)])), (j2, .inl (cI, 30, .inl f2)), (r3, .inr (0, [.ref j3, .int (nI L3.length)])), (j3, .inl (cI, 30, .inl f3)), (r4, .inr (0, [.ref j4, .int (nI L4.length)])), (j4, .inl (cI, 30, .inl f4))] sz) [(sh, .inr (1, [.ref r1, .ref r2, .ref r3, .ref r4, .int (nI rc), .int (nI bo), .int lv])), (r1, .inr (0, [.ref j1, .int (nI L1.length)])), (j1, .inl (cI, 30, .inl f1)), (r2, .inr (0, [.ref j2, .int (nI L2.length)])), (j2, .inl (cI, 30, .inl f2)), (r3, .inr (0, [.ref j3, .int (nI L3.length)])), (j3, .inl (cI, 30, .inl f3)), (r4, .inr (0, [.ref j4, .int (nI L4.length)])), (j4, .inl (cI, 30, .inl f4))] t) (va_A [(sh, .inr (1, [.ref r1, .ref r2, .ref r3, .ref r4, .int (nI rc), .int (nI bo), .int lv])), (r1, .inr (0, [.ref j1, .int (nI L1.length)])), (j1, .inl (cI, 30, .inl f1)), (r2, .inr (0, [.ref j2, .int (nI L2.length)])), (j2, .inl (cI, 30, .inl f2)), (r3, .inr (0, [.ref j3, .int (nI L3.length)])), (j3, .inl (cI, 30, .inl f3)), (r4, .inr (0, [.ref j4, .int (nI L4.length)])), (j4, .inl (cI, 30, .inl f4))] sz)) 0 0 (va_A [(sh, .inr (1, [.ref r1, .ref r2, .ref r3, .ref r4, .int (nI rc), .int (nI bo), .int lv])), (r1, .inr (0, [.ref j1, .int (nI L1.length)])), (j1, .inl (cI, 30, .inl f1)), (r2, .inr (0, [.ref j2, .int (nI L2.length)])), (j2, .inl (cI, 30, .inl f2)), (r3, .inr (0, [.ref j3, .int (nI L3.length)])), (j3, .inl (cI, 30, .inl f3)), (r4, .inr (0, [.ref j4, .int (nI L4.length)])), (j4, .inl (cI, 30, .inl f4))] sz) := by
  refine Met.ofW (cc := cX1_rowAt) (maxL := 2) (ret := (some (.object "GhostPantry$Row"))) (by decide) rfl ?_
  intro p e s m args below meth c s₁ B hml hv
  obtain ⟨rfl, hsz, hP, hK, hD0⟩ := hv
  have hx := B.exec
  have hb := B.bytes
  have hr := B.returns
  have hts := atoms_spec (ws := wsX1_rowAt) B.pre
  have hown : s.vm.findClass RX1 = some m.cls := findClass_of_methodNamed B.named
  have hlocks := B.notSynchronized
  subst hsz
  have hD := hD0.self (sz := s.heap.size)
  clear hD0
  generalize hAe : va_A [(sh, .inr (1, [.ref r1, .ref r2, .ref r3, .ref r4, .int (nI rc), .int (nI bo), .int lv])), (r1, .inr (0, [.ref j1, .int (nI L1.length)])), (j1, .inl (cI, 30, .inl f1)), (r2, .inr (0, [.ref j2, .int (nI L2.length)])), (j2, .inl (cI, 30, .inl f2)), (r3, .inr (0, [.ref j3, .int (nI L3.length)])), (j3, .inl (cI, 30, .inl f3)), (r4, .inr (0, [.ref j4, .int (nI L4.length)])), (j4, .inl (cI, 30, .inl f4))] s.heap.size = A at hD ⊢
  have hA : ∀ q : Nat, s.heap.size ≤ q → A q := fun q h => by rw [← hAe]; exact Or.inr h
  have hS : va_S A s.heap s.heap [] := va_S.rf
  have hP : va_P G vwCl [(sh, .inr (1, [.ref r1, .ref r2, .ref r3, .ref r4, .int (nI rc), .int (nI bo), .int lv])), (r1, .inr (0, [.ref j1, .int (nI L1.length)])), (j1, .inl (cI, 30, .inl f1)), (r2, .inr (0, [.ref j2, .int (nI L2.length)])), (j2, .inl (cI, 30, .inl f2)), (r3, .inr (0, [.ref j3, .int (nI L3.length)])), (j3, .inl (cI, 30, .inl f3)), (r4, .inr (0, [.ref j4, .int (nI L4.length)])), (j4, .inl (cI, 30, .inl f4))] s.heap := hP
  have hl := lv_entry ([.ref sh, .int (nI 4)]) (n := 2) (Nat.le_of_ble_eq_true rfl)
  rw [lg_entry_eq]
  generalize (lg_sl ([.ref sh, .int (nI 4)]) ++ List.replicate (2 - (lg_sl ([.ref sh, .int (nI 4)])).length) Slot.unset).toArray = ls at hl ⊢
  have hl : lv_has ls 2 [(0, .ref sh), (1, .int (nI 4))] := hl
  refine lv_iload_n hx hb dX1_rowAt_0 rfl (lv_at hl 1 rfl) ?_
  refine lv_tableIn (off := 46) (tgt := 47) hx hb dX1_rowAt_1 (by decide +kernel) (by decide +kernel) (by decide +kernel) (by decide) ?_
  refine lv_aload_n hx hb dX1_rowAt_47 rfl (lv_at hl 0 rfl) ?_
  refine va_get (D := G) (ci := 1) (v := .ref r4) (C := RX1) (T := TX1) (N := 7) hx hb hts iX1_rowAt_X1 hown hK hP 0 rfl rfl 3 (by decide) (hts (.fieldLink RX1 26 "GhostPantry$Shelves" "frequentGhosts" "LGhostPantry$Row;") (by decide +kernel)) (fun _ h9 => h9) rfl dX1_rowAt_48 ?_
  have hP9 := hP.sub (ws' := [(sh, .inr (1, [.ref r1, .ref r2, .ref r3, .ref r4, .int (nI rc), .int (nI bo), .int lv])), (r1, .inr (0, [.ref j1, .int (nI L1.length)])), (j1, .inl (cI, 30, .inl f1)), (r2, .inr (0, [.ref j2, .int (nI L2.length)])), (j2, .inl (cI, 30, .inl f2)), (r3, .inr (0, [.ref j3, .int (nI L3.length)])), (j3, .inl (cI, 30, .inl f3)), (r4, .inr (0, [.ref j4, .int (nI L4.length)])), (j4, .inl (cI, 30, .inl f4))]) [0, 1, 2, 3, 4, 5, 6, 7, 8] rfl
  have hD9 := hD.sub (ws' := [(sh, .inr (1, [.ref r1, .ref r2, .ref r3, .ref r4, .int (nI rc), .int (nI bo), .int lv])), (r1, .inr (0, [.ref j1, .int (nI L1.length)])), (j1, .inl (cI, 30, .inl f1)), (r2, .inr (0, [.ref j2, .int (nI L2.length)])), (j2, .inl (cI, 30, .inl f2)), (r3, .inr (0, [.ref j3, .int (nI L3.length)])), (j3, .inl (cI, 30, .inl f3)), (r4, .inr (0, [.ref j4, .int (nI L4.length)])), (j4, .inl (cI, 30, .inl f4))]) [0, 1, 2, 3, 4, 5, 6, 7, 8] (by decide) rfl
  exact W.aret (v := .ref r4) hx hb hr (Or.inl ⟨_, rfl⟩) (Or.inr ⟨_, rfl⟩) (fun t ht hW => ⟨⟨(some r4), (), rfl, rfl, g_at hP9 hK hD9 ht hW⟩, hS.F ht⟩) hS.2.2 dX1_rowAt_51

set_option maxHeartbeats 4000000 in
set_option maxRecDepth 100000 in
theorem c_X1_whereIs (l : Launch) (G : va_G) (cI : ClassId) (sh r1 r2 r3 r4 j1 j2 j3 j4 : Nat) (f1 f2 f3 f4 : Nat → Int32) (L1 L2 L3 L4 : List Int32) (rc bo : Nat) (lv : Int32) (hR1 : Rw f1 L1) (hR2 : Rw f2 L2) (hR3 : Rw f3 L3) (hR4 : Rw f4 L4) (hn : Num rc bo (L1, L2, L3, L4)) (jar : Int32) (sz : Nat) : Met l yX1_whereIs wsX1_whereIs ({ frames := 1, cells := 0, slots := 0, locals := 22 }) (va_Pc [.ref sh, .int jar] (gpre G [(cI, .int)] [(sh, .inr (1, [.ref r1, .ref r2, .ref r3, .ref r4, .int (nI rc), .int (nI bo), .int lv])), (r1, .inr (0, [.ref j1, .int (nI L1.length)])), (j1, .inl (cI, 30, .inl f1)), (r2, .inr (0, [.ref j2, .int (nI L2.length)])), (j2, .inl (cI, 30, .inl f2)), (r3, .inr (0, [.ref j3, .int (nI L3.length)])), (j3, .inl (cI, 30, .inl f3)), (r4, .inr (0, [.ref j4, .int (nI L4.length)])), (j4, .inl (cI, 30, .inl f4))] sz)) (va_Qi (fun (z : Int32) (_ : Unit) => z = nI (whr (L1, L2, L3, L4) jar)) (fun (_ : Unit) t => gat G [(cI, .int)] (va_A [(sh, .inr (1, [.ref r1, .ref r2, .ref r3, .ref r4, .int (nI rc), .int (nI bo), .int lv])), (r1, .inr (0, [.ref j1, .int (nI L1.length)])), (j1, .inl (cI, 30, .inl f1)), (r2, .inr (0, [.ref j2, .int (nI L2.length)])), (j2, .inl (cI, 30, .inl f2)), (r3, .inr (0, [.ref j3, .int (nI L3.length)])), (j3, .inl (cI, 30, .inl f3)), (r4, .inr (0, [.ref j4, .int (nI L4.length)])), (j4, .inl (cI, 30, .inl f4))] sz) [(sh, .inr (1, [.ref r1, .ref r2, .ref r3, .ref r4, .int (nI rc), .int (nI bo), .int lv])), (r1, .inr (0, [.ref j1, .int (nI L1.length)])), (j1, .inl (cI, 30, .inl f1)), (r2, .inr (0, [.ref j2, .int (nI L2.length)])), (j2, .inl (cI, 30, .inl f2)), (r3, .inr (0, [.ref j3, .int (nI L3.length)])), (j3, .inl (cI, 30, .inl f3)), (r4, .inr (0, [.ref j4, .int (nI L4.length)])), (j4, .inl (cI, 30, .inl f4))] t) (va_A [(sh, .inr (1, [.ref r1, .ref r2, .ref r3, .ref r4, .int (nI rc), .int (nI bo), .int lv])), (r1, .inr (0, [.ref j1, .int (nI L1.length)])), (j1, .inl (cI, 30, .inl f1)), (r2, .inr (0, [.ref j2, .int (nI L2.length)])), (j2, .inl (cI, 30, .inl f2)), (r3, .inr (0, [.ref j3, .int (nI L3.length)])), (j3, .inl (cI, 30, .inl f3)), (r4, .inr (0, [.ref j4, .int (nI L4.length)])), (j4, .inl (cI, 30, .inl f4))] sz)) 0 0 (va_A [(sh, .inr (1, [.ref r1, .ref r2, .ref r3, .ref r4, .int (nI rc), .int (nI bo), .int lv])), (r1, .inr (0, [.ref j1, .int (nI L1.length)])), (j1, .inl (cI, 30, .inl f1)), (r2, .inr (0, [.ref j2, .int (nI L2.length)])), (j2, .inl (cI, 30, .inl f2)), (r3, .inr (0, [.ref j3, .int (nI L3.length)])), (j3, .inl (cI, 30, .inl f3)), (r4, .inr (0, [.ref j4, .int (nI L4.length)])), (j4, .inl (cI, 30, .inl f4))] sz) := by
  refine Met.ofW (cc := cX1_whereIs) (maxL := 4) (ret := (some .int)) (by decide) rfl ?_
  intro p e s m args below meth c s₁ B hml hv
  obtain ⟨rfl, hsz, hP, hK, hD0⟩ := hv
  have hx := B.exec
  have hb := B.bytes
  have hr := B.returns
  have hts := atoms_spec (ws := wsX1_whereIs) B.pre
  have hown : s.vm.findClass RX1 = some m.cls := findClass_of_methodNamed B.named
  have hlocks := B.notSynchronized
  subst hsz
  have hD := hD0.self (sz := s.heap.size)
  clear hD0
  generalize hAe : va_A [(sh, .inr (1, [.ref r1, .ref r2, .ref r3, .ref r4, .int (nI rc), .int (nI bo), .int lv])), (r1, .inr (0, [.ref j1, .int (nI L1.length)])), (j1, .inl (cI, 30, .inl f1)), (r2, .inr (0, [.ref j2, .int (nI L2.length)])), (j2, .inl (cI, 30, .inl f2)), (r3, .inr (0, [.ref j3, .int (nI L3.length)])), (j3, .inl (cI, 30, .inl f3)), (r4, .inr (0, [.ref j4, .int (nI L4.length)])), (j4, .inl (cI, 30, .inl f4))] s.heap.size = A at hD ⊢
  have hA : ∀ q : Nat, s.heap.size ≤ q → A q := fun q h => by rw [← hAe]; exact Or.inr h
  have hS : va_S A s.heap s.heap [] := va_S.rf
  have hP : va_P G vwCl [(sh, .inr (1, [.ref r1, .ref r2, .ref r3, .ref r4, .int (nI rc), .int (nI bo), .int lv])), (r1, .inr (0, [.ref j1, .int (nI L1.length)])), (j1, .inl (cI, 30, .inl f1)), (r2, .inr (0, [.ref j2, .int (nI L2.length)])), (j2, .inl (cI, 30, .inl f2)), (r3, .inr (0, [.ref j3, .int (nI L3.length)])), (j3, .inl (cI, 30, .inl f3)), (r4, .inr (0, [.ref j4, .int (nI L4.length)])), (j4, .inl (cI, 30, .inl f4))] s.heap := hP
  have hl := lv_entry ([.ref sh, .int jar]) (n := 4) (Nat.le_of_ble_eq_true rfl)
  rw [lg_entry_eq]
  generalize (lg_sl ([.ref sh, .int jar]) ++ List.replicate (4 - (lg_sl ([.ref sh, .int jar])).length) Slot.unset).toArray = ls at hl ⊢
  have hl : lv_has ls 4 [(0, .ref sh), (1, .int jar)] := hl
  obtain ⟨hn1, hn2, hn3, hn4, hn5, hn6⟩ : 1 ≤ rc ∧ rc ≤ 12 ∧ bo ≤ rc ∧ L1.length + L2.length ≤ rc ∧ L1.length + L3.length ≤ rc ∧ L1.length + L2.length + L3.length + L4.length ≤ 2 * rc := hn
  refine lv_iconst (v := (nI 1)) hx hb dX1_whereIs_0 (by decide +kernel) ?_
  refine lv_istore_n (lv' := [(2, .int (nI 1)), (0, .ref sh), (1, .int jar)]) hx hb dX1_whereIs_1 rfl hl (by decide) rfl (fun ls hl => ?_)
  refine lv_iload_n hx hb dX1_whereIs_2 rfl (lv_at hl 0 rfl) ?_
  refine lv_iconst (v := (nI 4)) hx hb dX1_whereIs_3 (by decide +kernel) ?_
  refine g_icmp_gt (tgt := 34) hx hb dX1_whereIs_4 (by decide) (by decide) (by decide) (fun c_1 => False.elim (by omega)) (fun c_1 => ?_)
  refine lv_aload_n hx hb dX1_whereIs_7 rfl (lv_at hl 1 rfl) ?_
  refine lv_iload_n hx hb dX1_whereIs_8 rfl (lv_at hl 0 rfl) ?_
  have hPc := hP.sub (ws' := [(sh, .inr (1, [.ref r1, .ref r2, .ref r3, .ref r4, .int (nI rc), .int (nI bo), .int lv])), (r1, .inr (0, [.ref j1, .int (nI L1.length)])), (j1, .inl (cI, 30, .inl f1)), (r2, .inr (0, [.ref j2, .int (nI L2.length)])), (j2, .inl (cI, 30, .inl f2)), (r3, .inr (0, [.ref j3, .int (nI L3.length)])), (j3, .inl (cI, 30, .inl f3)), (r4, .inr (0, [.ref j4, .int (nI L4.length)])), (j4, .inl (cI, 30, .inl f4))]) [0, 1, 2, 3, 4, 5, 6, 7, 8] rfl
  have hDc := hD.sub (ws' := [(sh, .inr (1, [.ref r1, .ref r2, .ref r3, .ref r4, .int (nI rc), .int (nI bo), .int lv])), (r1, .inr (0, [.ref j1, .int (nI L1.length)])), (j1, .inl (cI, 30, .inl f1)), (r2, .inr (0, [.ref j2, .int (nI L2.length)])), (j2, .inl (cI, 30, .inl f2)), (r3, .inr (0, [.ref j3, .int (nI L3.length)])), (j3, .inl (cI, 30, .inl f3)), (r4, .inr (0, [.ref j4, .int (nI L4.length)])), (j4, .inl (cI, 30, .inl f4))]) [0, 1, 2, 3, 4, 5, 6, 7, 8] (by decide) rfl
  have hKc := hK.sub (tys' := [(cI, .int)]) [0] rfl
  have hFc := va_free (wc := [(sh, .inr (1, [.ref r1, .ref r2, .ref r3, .ref r4, .int (nI rc), .int (nI bo), .int lv])), (r1, .inr (0, [.ref j1, .int (nI L1.length)])), (j1, .inl (cI, 30, .inl f1)), (r2, .inr (0, [.ref j2, .int (nI L2.length)])), (j2, .inl (cI, 30, .inl f2)), (r3, .inr (0, [.ref j3, .int (nI L3.length)])), (j3, .inl (cI, 30, .inl f3)), (r4, .inr (0, [.ref j4, .int (nI L4.length)])), (j4, .inl (cI, 30, .inl f4))]) hD hS hA [0, 1, 2, 3, 4, 5, 6, 7, 8] rfl
  refine va_callq (va_runV (As := [.int (nI 1)]) (rest := []) ⟨hx, hb, hml, hown, hts⟩ (c_X1_rowAt_1 l G cI sh r1 r2 r3 r4 j1 j2 j3 j4 f1 f2 f3 f4 L1 L2 L3 L4 rc bo lv hR1 hR2 hR3 hR4  s.heap.size) (cwV 1 hts gX1_whereIs_X1_rowAt rfl rfl rfl (by decide +kernel) ⟨Nat.le_of_ble_eq_true rfl, Nat.le_of_ble_eq_true rfl⟩) (g_preV (As := [.int (nI 1)]) hPc hKc hDc 0 rfl rfl) rfl rfl hl.1 rfl (lv_room (Nat.le_of_ble_eq_true rfl)) dX1_whereIs_9 ⟨(Nat.le_of_ble_eq_true rfl), (Nat.le_of_ble_eq_true rfl)⟩) hS (fun q _ h => hFc q h) hFc (fun r_3 u_4 t H_2 locs ht hvm hw hB hz1 hk1 hS1 => ?_)
  subst hw
  obtain ⟨hP1, hD1⟩ := g_join (wc := [(sh, .inr (1, [.ref r1, .ref r2, .ref r3, .ref r4, .int (nI rc), .int (nI bo), .int lv])), (r1, .inr (0, [.ref j1, .int (nI L1.length)])), (j1, .inl (cI, 30, .inl f1)), (r2, .inr (0, [.ref j2, .int (nI L2.length)])), (j2, .inl (cI, 30, .inl f2)), (r3, .inr (0, [.ref j3, .int (nI L3.length)])), (j3, .inl (cI, 30, .inl f3)), (r4, .inr (0, [.ref j4, .int (nI L4.length)])), (j4, .inl (cI, 30, .inl f4))]) (wr := []) (w1 := [(sh, .inr (1, [.ref r1, .ref r2, .ref r3, .ref r4, .int (nI rc), .int (nI bo), .int lv])), (r1, .inr (0, [.ref j1, .int (nI L1.length)])), (j1, .inl (cI, 30, .inl f1)), (r2, .inr (0, [.ref j2, .int (nI L2.length)])), (j2, .inl (cI, 30, .inl f2)), (r3, .inr (0, [.ref j3, .int (nI L3.length)])), (j3, .inl (cI, 30, .inl f3)), (r4, .inr (0, [.ref j4, .int (nI L4.length)])), (j4, .inl (cI, 30, .inl f4))]) hP hD [0, 1, 2, 3, 4, 5, 6, 7, 8] [] rfl rfl (by decide) (by decide) ht hk1 hFc hB
  clear hB hk1 hz1 hvm ht hPc hDc hKc hFc
  clear hP hD hS
  have hP : va_P G vwCl [(sh, .inr (1, [.ref r1, .ref r2, .ref r3, .ref r4, .int (nI rc), .int (nI bo), .int lv])), (r1, .inr (0, [.ref j1, .int (nI L1.length)])), (j1, .inl (cI, 30, .inl f1)), (r2, .inr (0, [.ref j2, .int (nI L2.length)])), (j2, .inl (cI, 30, .inl f2)), (r3, .inr (0, [.ref j3, .int (nI L3.length)])), (j3, .inl (cI, 30, .inl f3)), (r4, .inr (0, [.ref j4, .int (nI L4.length)])), (j4, .inl (cI, 30, .inl f4))] H_2 := hP1
  have hD : va_D A [(sh, .inr (1, [.ref r1, .ref r2, .ref r3, .ref r4, .int (nI rc), .int (nI bo), .int lv])), (r1, .inr (0, [.ref j1, .int (nI L1.length)])), (j1, .inl (cI, 30, .inl f1)), (r2, .inr (0, [.ref j2, .int (nI L2.length)])), (j2, .inl (cI, 30, .inl f2)), (r3, .inr (0, [.ref j3, .int (nI L3.length)])), (j3, .inl (cI, 30, .inl f3)), (r4, .inr (0, [.ref j4, .int (nI L4.length)])), (j4, .inl (cI, 30, .inl f4))] := hD1
  have hS := hS1
  clear hP1 hD1 hS1
  refine W.eq (g2 := F0 m 12 ls [.ref r1]) rfl ?_
  refine lv_astore_n (lv' := [(3, .ref r1), (2, .int (nI 1)), (0, .ref sh), (1, .int jar)]) hx hb dX1_whereIs_12 rfl hl (by decide) rfl (fun ls hl => ?_)
  refine lv_aload_n hx hb dX1_whereIs_13 rfl (lv_at hl 0 rfl) ?_
  refine lv_ifnull hx hb dX1_whereIs_14 ?_
  refine lv_aload_n hx hb dX1_whereIs_17 rfl (lv_at hl 0 rfl) ?_
  refine lv_iload_n hx hb dX1_whereIs_18 rfl (lv_at hl 3 rfl) ?_
  have hPc := hP.sub (ws' := [(r1, .inr (0, [.ref j1, .int (nI L1.length)])), (j1, .inl (cI, 30, .inl f1))]) [1, 2] rfl
  have hDc := hD.sub (ws' := [(r1, .inr (0, [.ref j1, .int (nI L1.length)])), (j1, .inl (cI, 30, .inl f1))]) [1, 2] (by decide) rfl
  have hKc := hK.sub (tys' := [(cI, .int)]) [0] rfl
  have hFc := va_free (wc := [(r1, .inr (0, [.ref j1, .int (nI L1.length)])), (j1, .inl (cI, 30, .inl f1))]) hD hS hA [1, 2] rfl
  refine va_calli (va_runV (As := [.int jar]) (rest := []) ⟨hx, hb, hml, hown, hts⟩ (c_X0_placeOf l G cI r1 j1 f1 L1 hR1 (by omega) jar H_2.size) (cwV 1 hts gX1_whereIs_X0_placeOf rfl rfl rfl (by decide +kernel) ⟨Nat.le_of_ble_eq_true rfl, Nat.le_of_ble_eq_true rfl⟩) (g_preV (As := [.int jar]) hPc hKc hDc 0 rfl rfl) rfl rfl hl.1 rfl (lv_room (Nat.le_of_ble_eq_true rfl)) dX1_whereIs_19 ⟨(Nat.le_of_ble_eq_true rfl), (Nat.le_of_ble_eq_true rfl)⟩) hS (fun q _ h => hFc q h) hFc (fun r_6 u_7 t H_5 locs ht hvm hw hB hz1 hk1 hS1 => ?_)
  subst hw
  obtain ⟨hP1, hD1⟩ := g_join (wc := [(r1, .inr (0, [.ref j1, .int (nI L1.length)])), (j1, .inl (cI, 30, .inl f1))]) (wr := [(sh, .inr (1, [.ref r1, .ref r2, .ref r3, .ref r4, .int (nI rc), .int (nI bo), .int lv])), (r2, .inr (0, [.ref j2, .int (nI L2.length)])), (j2, .inl (cI, 30, .inl f2)), (r3, .inr (0, [.ref j3, .int (nI L3.length)])), (j3, .inl (cI, 30, .inl f3)), (r4, .inr (0, [.ref j4, .int (nI L4.length)])), (j4, .inl (cI, 30, .inl f4))]) (w1 := [(r1, .inr (0, [.ref j1, .int (nI L1.length)])), (j1, .inl (cI, 30, .inl f1))]) hP hD [1, 2] [0, 3, 4, 5, 6, 7, 8] rfl rfl (by decide) (by decide) ht hk1 hFc hB
  clear hB hk1 hz1 hvm ht hPc hDc hKc hFc
  clear hP hD hS
  have hP : va_P G vwCl [(sh, .inr (1, [.ref r1, .ref r2, .ref r3, .ref r4, .int (nI rc), .int (nI bo), .int lv])), (r2, .inr (0, [.ref j2, .int (nI L2.length)])), (j2, .inl (cI, 30, .inl f2)), (r3, .inr (0, [.ref j3, .int (nI L3.length)])), (j3, .inl (cI, 30, .inl f3)), (r4, .inr (0, [.ref j4, .int (nI L4.length)])), (j4, .inl (cI, 30, .inl f4)), (r1, .inr (0, [.ref j1, .int (nI L1.length)])), (j1, .inl (cI, 30, .inl f1))] H_5 := hP1
  have hD : va_D A [(sh, .inr (1, [.ref r1, .ref r2, .ref r3, .ref r4, .int (nI rc), .int (nI bo), .int lv])), (r2, .inr (0, [.ref j2, .int (nI L2.length)])), (j2, .inl (cI, 30, .inl f2)), (r3, .inr (0, [.ref j3, .int (nI L3.length)])), (j3, .inl (cI, 30, .inl f3)), (r4, .inr (0, [.ref j4, .int (nI L4.length)])), (j4, .inl (cI, 30, .inl f4)), (r1, .inr (0, [.ref j1, .int (nI L1.length)])), (j1, .inl (cI, 30, .inl f1))] := hD1
  have hS := hS1
  clear hP1 hD1 hS1
  refine lv_iconst (v := (-1)) hx hb dX1_whereIs_22 (by decide +kernel) ?_
  refine lv_icmp_eq (tgt := 28) hx hb dX1_whereIs_23 (by decide) (fun c_8 => ?_) (fun c_8 => ?_)
  · have m1 : jar ∉ L1 := pos_out (by omega) c_8
    refine lv_iinc (v := (nI 2)) (lv' := [(2, .int (nI 2)), (3, .ref r1), (0, .ref sh), (1, .int jar)]) hx hb dX1_whereIs_28 hl (k := 1) rfl (by decide +kernel) (by decide) rfl (fun ls hl => ?_)
    refine lv_goto (tgt := 2) hx hb dX1_whereIs_31 (by decide) ?_
    refine lv_iload_n hx hb dX1_whereIs_2 rfl (lv_at hl 0 rfl) ?_
    refine lv_iconst (v := (nI 4)) hx hb dX1_whereIs_3 (by decide +kernel) ?_
    refine g_icmp_gt (tgt := 34) hx hb dX1_whereIs_4 (by decide) (by decide) (by decide) (fun c_9 => False.elim (by omega)) (fun c_9 => ?_)
    refine lv_aload_n hx hb dX1_whereIs_7 rfl (lv_at hl 2 rfl) ?_
    refine lv_iload_n hx hb dX1_whereIs_8 rfl (lv_at hl 0 rfl) ?_
    have hPc := hP.sub (ws' := [(sh, .inr (1, [.ref r1, .ref r2, .ref r3, .ref r4, .int (nI rc), .int (nI bo), .int lv])), (r1, .inr (0, [.ref j1, .int (nI L1.length)])), (j1, .inl (cI, 30, .inl f1)), (r2, .inr (0, [.ref j2, .int (nI L2.length)])), (j2, .inl (cI, 30, .inl f2)), (r3, .inr (0, [.ref j3, .int (nI L3.length)])), (j3, .inl (cI, 30, .inl f3)), (r4, .inr (0, [.ref j4, .int (nI L4.length)])), (j4, .inl (cI, 30, .inl f4))]) [0, 7, 8, 1, 2, 3, 4, 5, 6] rfl
    have hDc := hD.sub (ws' := [(sh, .inr (1, [.ref r1, .ref r2, .ref r3, .ref r4, .int (nI rc), .int (nI bo), .int lv])), (r1, .inr (0, [.ref j1, .int (nI L1.length)])), (j1, .inl (cI, 30, .inl f1)), (r2, .inr (0, [.ref j2, .int (nI L2.length)])), (j2, .inl (cI, 30, .inl f2)), (r3, .inr (0, [.ref j3, .int (nI L3.length)])), (j3, .inl (cI, 30, .inl f3)), (r4, .inr (0, [.ref j4, .int (nI L4.length)])), (j4, .inl (cI, 30, .inl f4))]) [0, 7, 8, 1, 2, 3, 4, 5, 6] (by decide) rfl
    have hKc := hK.sub (tys' := [(cI, .int)]) [0] rfl
    have hFc := va_free (wc := [(sh, .inr (1, [.ref r1, .ref r2, .ref r3, .ref r4, .int (nI rc), .int (nI bo), .int lv])), (r1, .inr (0, [.ref j1, .int (nI L1.length)])), (j1, .inl (cI, 30, .inl f1)), (r2, .inr (0, [.ref j2, .int (nI L2.length)])), (j2, .inl (cI, 30, .inl f2)), (r3, .inr (0, [.ref j3, .int (nI L3.length)])), (j3, .inl (cI, 30, .inl f3)), (r4, .inr (0, [.ref j4, .int (nI L4.length)])), (j4, .inl (cI, 30, .inl f4))]) hD hS hA [0, 7, 8, 1, 2, 3, 4, 5, 6] rfl
    refine va_callq (va_runV (As := [.int (nI 2)]) (rest := []) ⟨hx, hb, hml, hown, hts⟩ (c_X1_rowAt_2 l G cI sh r1 r2 r3 r4 j1 j2 j3 j4 f1 f2 f3 f4 L1 L2 L3 L4 rc bo lv hR1 hR2 hR3 hR4  H_5.size) (cwV 1 hts gX1_whereIs_X1_rowAt rfl rfl rfl (by decide +kernel) ⟨Nat.le_of_ble_eq_true rfl, Nat.le_of_ble_eq_true rfl⟩) (g_preV (As := [.int (nI 2)]) hPc hKc hDc 0 rfl rfl) rfl rfl hl.1 rfl (lv_room (Nat.le_of_ble_eq_true rfl)) dX1_whereIs_9 ⟨(Nat.le_of_ble_eq_true rfl), (Nat.le_of_ble_eq_true rfl)⟩) hS (fun q _ h => hFc q h) hFc (fun r_11 u_12 t H_10 locs ht hvm hw hB hz1 hk1 hS1 => ?_)
    subst hw
    obtain ⟨hP1, hD1⟩ := g_join (wc := [(sh, .inr (1, [.ref r1, .ref r2, .ref r3, .ref r4, .int (nI rc), .int (nI bo), .int lv])), (r1, .inr (0, [.ref j1, .int (nI L1.length)])), (j1, .inl (cI, 30, .inl f1)), (r2, .inr (0, [.ref j2, .int (nI L2.length)])), (j2, .inl (cI, 30, .inl f2)), (r3, .inr (0, [.ref j3, .int (nI L3.length)])), (j3, .inl (cI, 30, .inl f3)), (r4, .inr (0, [.ref j4, .int (nI L4.length)])), (j4, .inl (cI, 30, .inl f4))]) (wr := []) (w1 := [(sh, .inr (1, [.ref r1, .ref r2, .ref r3, .ref r4, .int (nI rc), .int (nI bo), .int lv])), (r1, .inr (0, [.ref j1, .int (nI L1.length)])), (j1, .inl (cI, 30, .inl f1)), (r2, .inr (0, [.ref j2, .int (nI L2.length)])), (j2, .inl (cI, 30, .inl f2)), (r3, .inr (0, [.ref j3, .int (nI L3.length)])), (j3, .inl (cI, 30, .inl f3)), (r4, .inr (0, [.ref j4, .int (nI L4.length)])), (j4, .inl (cI, 30, .inl f4))]) hP hD [0, 7, 8, 1, 2, 3, 4, 5, 6] [] rfl rfl (by decide) (by decide) ht hk1 hFc hB
    clear hB hk1 hz1 hvm ht hPc hDc hKc hFc
    clear hP hD hS
    have hP : va_P G vwCl [(sh, .inr (1, [.ref r1, .ref r2, .ref r3, .ref r4, .int (nI rc), .int (nI bo), .int lv])), (r1, .inr (0, [.ref j1, .int (nI L1.length)])), (j1, .inl (cI, 30, .inl f1)), (r2, .inr (0, [.ref j2, .int (nI L2.length)])), (j2, .inl (cI, 30, .inl f2)), (r3, .inr (0, [.ref j3, .int (nI L3.length)])), (j3, .inl (cI, 30, .inl f3)), (r4, .inr (0, [.ref j4, .int (nI L4.length)])), (j4, .inl (cI, 30, .inl f4))] H_10 := hP1
    have hD : va_D A [(sh, .inr (1, [.ref r1, .ref r2, .ref r3, .ref r4, .int (nI rc), .int (nI bo), .int lv])), (r1, .inr (0, [.ref j1, .int (nI L1.length)])), (j1, .inl (cI, 30, .inl f1)), (r2, .inr (0, [.ref j2, .int (nI L2.length)])), (j2, .inl (cI, 30, .inl f2)), (r3, .inr (0, [.ref j3, .int (nI L3.length)])), (j3, .inl (cI, 30, .inl f3)), (r4, .inr (0, [.ref j4, .int (nI L4.length)])), (j4, .inl (cI, 30, .inl f4))] := hD1
    have hS := hS1
    clear hP1 hD1 hS1
    refine W.eq (g2 := F0 m 12 ls [.ref r2]) rfl ?_
    refine lv_astore_n (lv' := [(3, .ref r2), (2, .int (nI 2)), (0, .ref sh), (1, .int jar)]) hx hb dX1_whereIs_12 rfl hl (by decide) rfl (fun ls hl => ?_)
    refine lv_aload_n hx hb dX1_whereIs_13 rfl (lv_at hl 0 rfl) ?_
    refine lv_ifnull hx hb dX1_whereIs_14 ?_
    refine lv_aload_n hx hb dX1_whereIs_17 rfl (lv_at hl 0 rfl) ?_
    refine lv_iload_n hx hb dX1_whereIs_18 rfl (lv_at hl 3 rfl) ?_
    have hPc := hP.sub (ws' := [(r2, .inr (0, [.ref j2, .int (nI L2.length)])), (j2, .inl (cI, 30, .inl f2))]) [3, 4] rfl
    have hDc := hD.sub (ws' := [(r2, .inr (0, [.ref j2, .int (nI L2.length)])), (j2, .inl (cI, 30, .inl f2))]) [3, 4] (by decide) rfl
    have hKc := hK.sub (tys' := [(cI, .int)]) [0] rfl
    have hFc := va_free (wc := [(r2, .inr (0, [.ref j2, .int (nI L2.length)])), (j2, .inl (cI, 30, .inl f2))]) hD hS hA [3, 4] rfl
    refine va_calli (va_runV (As := [.int jar]) (rest := []) ⟨hx, hb, hml, hown, hts⟩ (c_X0_placeOf l G cI r2 j2 f2 L2 hR2 (by omega) jar H_10.size) (cwV 1 hts gX1_whereIs_X0_placeOf rfl rfl rfl (by decide +kernel) ⟨Nat.le_of_ble_eq_true rfl, Nat.le_of_ble_eq_true rfl⟩) (g_preV (As := [.int jar]) hPc hKc hDc 0 rfl rfl) rfl rfl hl.1 rfl (lv_room (Nat.le_of_ble_eq_true rfl)) dX1_whereIs_19 ⟨(Nat.le_of_ble_eq_true rfl), (Nat.le_of_ble_eq_true rfl)⟩) hS (fun q _ h => hFc q h) hFc (fun r_14 u_15 t H_13 locs ht hvm hw hB hz1 hk1 hS1 => ?_)
    subst hw
    obtain ⟨hP1, hD1⟩ := g_join (wc := [(r2, .inr (0, [.ref j2, .int (nI L2.length)])), (j2, .inl (cI, 30, .inl f2))]) (wr := [(sh, .inr (1, [.ref r1, .ref r2, .ref r3, .ref r4, .int (nI rc), .int (nI bo), .int lv])), (r1, .inr (0, [.ref j1, .int (nI L1.length)])), (j1, .inl (cI, 30, .inl f1)), (r3, .inr (0, [.ref j3, .int (nI L3.length)])), (j3, .inl (cI, 30, .inl f3)), (r4, .inr (0, [.ref j4, .int (nI L4.length)])), (j4, .inl (cI, 30, .inl f4))]) (w1 := [(r2, .inr (0, [.ref j2, .int (nI L2.length)])), (j2, .inl (cI, 30, .inl f2))]) hP hD [3, 4] [0, 1, 2, 5, 6, 7, 8] rfl rfl (by decide) (by decide) ht hk1 hFc hB
    clear hB hk1 hz1 hvm ht hPc hDc hKc hFc
    clear hP hD hS
    have hP : va_P G vwCl [(sh, .inr (1, [.ref r1, .ref r2, .ref r3, .ref r4, .int (nI rc), .int (nI bo), .int lv])), (r1, .inr (0, [.ref j1, .int (nI L1.length)])), (j1, .inl (cI, 30, .inl f1)), (r3, .inr (0, [.ref j3, .int (nI L3.length)])), (j3, .inl (cI, 30, .inl f3)), (r4, .inr (0, [.ref j4, .int (nI L4.length)])), (j4, .inl (cI, 30, .inl f4)), (r2, .inr (0, [.ref j2, .int (nI L2.length)])), (j2, .inl (cI, 30, .inl f2))] H_13 := hP1
    have hD : va_D A [(sh, .inr (1, [.ref r1, .ref r2, .ref r3, .ref r4, .int (nI rc), .int (nI bo), .int lv])), (r1, .inr (0, [.ref j1, .int (nI L1.length)])), (j1, .inl (cI, 30, .inl f1)), (r3, .inr (0, [.ref j3, .int (nI L3.length)])), (j3, .inl (cI, 30, .inl f3)), (r4, .inr (0, [.ref j4, .int (nI L4.length)])), (j4, .inl (cI, 30, .inl f4)), (r2, .inr (0, [.ref j2, .int (nI L2.length)])), (j2, .inl (cI, 30, .inl f2))] := hD1
    have hS := hS1
    clear hP1 hD1 hS1
    refine lv_iconst (v := (-1)) hx hb dX1_whereIs_22 (by decide +kernel) ?_
    refine lv_icmp_eq (tgt := 28) hx hb dX1_whereIs_23 (by decide) (fun c_16 => ?_) (fun c_16 => ?_)
    · have m2 : jar ∉ L2 := pos_out (by omega) c_16
      refine lv_iinc (v := (nI 3)) (lv' := [(2, .int (nI 3)), (3, .ref r2), (0, .ref sh), (1, .int jar)]) hx hb dX1_whereIs_28 hl (k := 1) rfl (by decide +kernel) (by decide) rfl (fun ls hl => ?_)
      refine lv_goto (tgt := 2) hx hb dX1_whereIs_31 (by decide) ?_
      refine lv_iload_n hx hb dX1_whereIs_2 rfl (lv_at hl 0 rfl) ?_
      refine lv_iconst (v := (nI 4)) hx hb dX1_whereIs_3 (by decide +kernel) ?_
      refine g_icmp_gt (tgt := 34) hx hb dX1_whereIs_4 (by decide) (by decide) (by decide) (fun c_17 => False.elim (by omega)) (fun c_17 => ?_)
      refine lv_aload_n hx hb dX1_whereIs_7 rfl (lv_at hl 2 rfl) ?_
      refine lv_iload_n hx hb dX1_whereIs_8 rfl (lv_at hl 0 rfl) ?_
      have hPc := hP.sub (ws' := [(sh, .inr (1, [.ref r1, .ref r2, .ref r3, .ref r4, .int (nI rc), .int (nI bo), .int lv])), (r1, .inr (0, [.ref j1, .int (nI L1.length)])), (j1, .inl (cI, 30, .inl f1)), (r2, .inr (0, [.ref j2, .int (nI L2.length)])), (j2, .inl (cI, 30, .inl f2)), (r3, .inr (0, [.ref j3, .int (nI L3.length)])), (j3, .inl (cI, 30, .inl f3)), (r4, .inr (0, [.ref j4, .int (nI L4.length)])), (j4, .inl (cI, 30, .inl f4))]) [0, 1, 2, 7, 8, 3, 4, 5, 6] rfl
      have hDc := hD.sub (ws' := [(sh, .inr (1, [.ref r1, .ref r2, .ref r3, .ref r4, .int (nI rc), .int (nI bo), .int lv])), (r1, .inr (0, [.ref j1, .int (nI L1.length)])), (j1, .inl (cI, 30, .inl f1)), (r2, .inr (0, [.ref j2, .int (nI L2.length)])), (j2, .inl (cI, 30, .inl f2)), (r3, .inr (0, [.ref j3, .int (nI L3.length)])), (j3, .inl (cI, 30, .inl f3)), (r4, .inr (0, [.ref j4, .int (nI L4.length)])), (j4, .inl (cI, 30, .inl f4))]) [0, 1, 2, 7, 8, 3, 4, 5, 6] (by decide) rfl
      have hKc := hK.sub (tys' := [(cI, .int)]) [0] rfl
      have hFc := va_free (wc := [(sh, .inr (1, [.ref r1, .ref r2, .ref r3, .ref r4, .int (nI rc), .int (nI bo), .int lv])), (r1, .inr (0, [.ref j1, .int (nI L1.length)])), (j1, .inl (cI, 30, .inl f1)), (r2, .inr (0, [.ref j2, .int (nI L2.length)])), (j2, .inl (cI, 30, .inl f2)), (r3, .inr (0, [.ref j3, .int (nI L3.length)])), (j3, .inl (cI, 30, .inl f3)), (r4, .inr (0, [.ref j4, .int (nI L4.length)])), (j4, .inl (cI, 30, .inl f4))]) hD hS hA [0, 1, 2, 7, 8, 3, 4, 5, 6] rfl
      refine va_callq (va_runV (As := [.int (nI 3)]) (rest := []) ⟨hx, hb, hml, hown, hts⟩ (c_X1_rowAt_3 l G cI sh r1 r2 r3 r4 j1 j2 j3 j4 f1 f2 f3 f4 L1 L2 L3 L4 rc bo lv hR1 hR2 hR3 hR4  H_13.size) (cwV 1 hts gX1_whereIs_X1_rowAt rfl rfl rfl (by decide +kernel) ⟨Nat.le_of_ble_eq_true rfl, Nat.le_of_ble_eq_true rfl⟩) (g_preV (As := [.int (nI 3)]) hPc hKc hDc 0 rfl rfl) rfl rfl hl.1 rfl (lv_room (Nat.le_of_ble_eq_true rfl)) dX1_whereIs_9 ⟨(Nat.le_of_ble_eq_true rfl), (Nat.le_of_ble_eq_true rfl)⟩) hS (fun q _ h => hFc q h) hFc (fun r_19 u_20 t H_18 locs ht hvm hw hB hz1 hk1 hS1 => ?_)
      subst hw
      obtain ⟨hP1, hD1⟩ := g_join (wc := [(sh, .inr (1, [.ref r1, .ref r2, .ref r3, .ref r4, .int (nI rc), .int (nI bo), .int lv])), (r1, .inr (0, [.ref j1, .int (nI L1.length)])), (j1, .inl (cI, 30, .inl f1)), (r2, .inr (0, [.ref j2, .int (nI L2.length)])), (j2, .inl (cI, 30, .inl f2)), (r3, .inr (0, [.ref j3, .int (nI L3.length)])), (j3, .inl (cI, 30, .inl f3)), (r4, .inr (0, [.ref j4, .int (nI L4.length)])), (j4, .inl (cI, 30, .inl f4))]) (wr := []) (w1 := [(sh, .inr (1, [.ref r1, .ref r2, .ref r3, .ref r4, .int (nI rc), .int (nI bo), .int lv])), (r1, .inr (0, [.ref j1, .int (nI L1.length)])), (j1, .inl (cI, 30, .inl f1)), (r2, .inr (0, [.ref j2, .int (nI L2.length)])), (j2, .inl (cI, 30, .inl f2)), (r3, .inr (0, [.ref j3, .int (nI L3.length)])), (j3, .inl (cI, 30, .inl f3)), (r4, .inr (0, [.ref j4, .int (nI L4.length)])), (j4, .inl (cI, 30, .inl f4))]) hP hD [0, 1, 2, 7, 8, 3, 4, 5, 6] [] rfl rfl (by decide) (by decide) ht hk1 hFc hB
      clear hB hk1 hz1 hvm ht hPc hDc hKc hFc
      clear hP hD hS
      have hP : va_P G vwCl [(sh, .inr (1, [.ref r1, .ref r2, .ref r3, .ref r4, .int (nI rc), .int (nI bo), .int lv])), (r1, .inr (0, [.ref j1, .int (nI L1.length)])), (j1, .inl (cI, 30, .inl f1)), (r2, .inr (0, [.ref j2, .int (nI L2.length)])), (j2, .inl (cI, 30, .inl f2)), (r3, .inr (0, [.ref j3, .int (nI L3.length)])), (j3, .inl (cI, 30, .inl f3)), (r4, .inr (0, [.ref j4, .int (nI L4.length)])), (j4, .inl (cI, 30, .inl f4))] H_18 := hP1
      have hD : va_D A [(sh, .inr (1, [.ref r1, .ref r2, .ref r3, .ref r4, .int (nI rc), .int (nI bo), .int lv])), (r1, .inr (0, [.ref j1, .int (nI L1.length)])), (j1, .inl (cI, 30, .inl f1)), (r2, .inr (0, [.ref j2, .int (nI L2.length)])), (j2, .inl (cI, 30, .inl f2)), (r3, .inr (0, [.ref j3, .int (nI L3.length)])), (j3, .inl (cI, 30, .inl f3)), (r4, .inr (0, [.ref j4, .int (nI L4.length)])), (j4, .inl (cI, 30, .inl f4))] := hD1
      have hS := hS1
      clear hP1 hD1 hS1
      refine W.eq (g2 := F0 m 12 ls [.ref r3]) rfl ?_
      refine lv_astore_n (lv' := [(3, .ref r3), (2, .int (nI 3)), (0, .ref sh), (1, .int jar)]) hx hb dX1_whereIs_12 rfl hl (by decide) rfl (fun ls hl => ?_)
      refine lv_aload_n hx hb dX1_whereIs_13 rfl (lv_at hl 0 rfl) ?_
      refine lv_ifnull hx hb dX1_whereIs_14 ?_
      refine lv_aload_n hx hb dX1_whereIs_17 rfl (lv_at hl 0 rfl) ?_
      refine lv_iload_n hx hb dX1_whereIs_18 rfl (lv_at hl 3 rfl) ?_
      have hPc := hP.sub (ws' := [(r3, .inr (0, [.ref j3, .int (nI L3.length)])), (j3, .inl (cI, 30, .inl f3))]) [5, 6] rfl
      have hDc := hD.sub (ws' := [(r3, .inr (0, [.ref j3, .int (nI L3.length)])), (j3, .inl (cI, 30, .inl f3))]) [5, 6] (by decide) rfl
      have hKc := hK.sub (tys' := [(cI, .int)]) [0] rfl
      have hFc := va_free (wc := [(r3, .inr (0, [.ref j3, .int (nI L3.length)])), (j3, .inl (cI, 30, .inl f3))]) hD hS hA [5, 6] rfl
      refine va_calli (va_runV (As := [.int jar]) (rest := []) ⟨hx, hb, hml, hown, hts⟩ (c_X0_placeOf l G cI r3 j3 f3 L3 hR3 (by omega) jar H_18.size) (cwV 1 hts gX1_whereIs_X0_placeOf rfl rfl rfl (by decide +kernel) ⟨Nat.le_of_ble_eq_true rfl, Nat.le_of_ble_eq_true rfl⟩) (g_preV (As := [.int jar]) hPc hKc hDc 0 rfl rfl) rfl rfl hl.1 rfl (lv_room (Nat.le_of_ble_eq_true rfl)) dX1_whereIs_19 ⟨(Nat.le_of_ble_eq_true rfl), (Nat.le_of_ble_eq_true rfl)⟩) hS (fun q _ h => hFc q h) hFc (fun r_22 u_23 t H_21 locs ht hvm hw hB hz1 hk1 hS1 => ?_)
      subst hw
      obtain ⟨hP1, hD1⟩ := g_join (wc := [(r3, .inr (0, [.ref j3, .int (nI L3.length)])), (j3, .inl (cI, 30, .inl f3))]) (wr := [(sh, .inr (1, [.ref r1, .ref r2, .ref r3, .ref r4, .int (nI rc), .int (nI bo), .int lv])), (r1, .inr (0, [.ref j1, .int (nI L1.length)])), (j1, .inl (cI, 30, .inl f1)), (r2, .inr (0, [.ref j2, .int (nI L2.length)])), (j2, .inl (cI, 30, .inl f2)), (r4, .inr (0, [.ref j4, .int (nI L4.length)])), (j4, .inl (cI, 30, .inl f4))]) (w1 := [(r3, .inr (0, [.ref j3, .int (nI L3.length)])), (j3, .inl (cI, 30, .inl f3))]) hP hD [5, 6] [0, 1, 2, 3, 4, 7, 8] rfl rfl (by decide) (by decide) ht hk1 hFc hB
      clear hB hk1 hz1 hvm ht hPc hDc hKc hFc
      clear hP hD hS
      have hP : va_P G vwCl [(sh, .inr (1, [.ref r1, .ref r2, .ref r3, .ref r4, .int (nI rc), .int (nI bo), .int lv])), (r1, .inr (0, [.ref j1, .int (nI L1.length)])), (j1, .inl (cI, 30, .inl f1)), (r2, .inr (0, [.ref j2, .int (nI L2.length)])), (j2, .inl (cI, 30, .inl f2)), (r4, .inr (0, [.ref j4, .int (nI L4.length)])), (j4, .inl (cI, 30, .inl f4)), (r3, .inr (0, [.ref j3, .int (nI L3.length)])), (j3, .inl (cI, 30, .inl f3))] H_21 := hP1
      have hD : va_D A [(sh, .inr (1, [.ref r1, .ref r2, .ref r3, .ref r4, .int (nI rc), .int (nI bo), .int lv])), (r1, .inr (0, [.ref j1, .int (nI L1.length)])), (j1, .inl (cI, 30, .inl f1)), (r2, .inr (0, [.ref j2, .int (nI L2.length)])), (j2, .inl (cI, 30, .inl f2)), (r4, .inr (0, [.ref j4, .int (nI L4.length)])), (j4, .inl (cI, 30, .inl f4)), (r3, .inr (0, [.ref j3, .int (nI L3.length)])), (j3, .inl (cI, 30, .inl f3))] := hD1
      have hS := hS1
      clear hP1 hD1 hS1
      refine lv_iconst (v := (-1)) hx hb dX1_whereIs_22 (by decide +kernel) ?_
      refine lv_icmp_eq (tgt := 28) hx hb dX1_whereIs_23 (by decide) (fun c_24 => ?_) (fun c_24 => ?_)
      · have m3 : jar ∉ L3 := pos_out (by omega) c_24
        refine lv_iinc (v := (nI 4)) (lv' := [(2, .int (nI 4)), (3, .ref r3), (0, .ref sh), (1, .int jar)]) hx hb dX1_whereIs_28 hl (k := 1) rfl (by decide +kernel) (by decide) rfl (fun ls hl => ?_)
        refine lv_goto (tgt := 2) hx hb dX1_whereIs_31 (by decide) ?_
        refine lv_iload_n hx hb dX1_whereIs_2 rfl (lv_at hl 0 rfl) ?_
        refine lv_iconst (v := (nI 4)) hx hb dX1_whereIs_3 (by decide +kernel) ?_
        refine g_icmp_gt (tgt := 34) hx hb dX1_whereIs_4 (by decide) (by decide) (by decide) (fun c_25 => False.elim (by omega)) (fun c_25 => ?_)
        refine lv_aload_n hx hb dX1_whereIs_7 rfl (lv_at hl 2 rfl) ?_
        refine lv_iload_n hx hb dX1_whereIs_8 rfl (lv_at hl 0 rfl) ?_
        have hPc := hP.sub (ws' := [(sh, .inr (1, [.ref r1, .ref r2, .ref r3, .ref r4, .int (nI rc), .int (nI bo), .int lv])), (r1, .inr (0, [.ref j1, .int (nI L1.length)])), (j1, .inl (cI, 30, .inl f1)), (r2, .inr (0, [.ref j2, .int (nI L2.length)])), (j2, .inl (cI, 30, .inl f2)), (r3, .inr (0, [.ref j3, .int (nI L3.length)])), (j3, .inl (cI, 30, .inl f3)), (r4, .inr (0, [.ref j4, .int (nI L4.length)])), (j4, .inl (cI, 30, .inl f4))]) [0, 1, 2, 3, 4, 7, 8, 5, 6] rfl
        have hDc := hD.sub (ws' := [(sh, .inr (1, [.ref r1, .ref r2, .ref r3, .ref r4, .int (nI rc), .int (nI bo), .int lv])), (r1, .inr (0, [.ref j1, .int (nI L1.length)])), (j1, .inl (cI, 30, .inl f1)), (r2, .inr (0, [.ref j2, .int (nI L2.length)])), (j2, .inl (cI, 30, .inl f2)), (r3, .inr (0, [.ref j3, .int (nI L3.length)])), (j3, .inl (cI, 30, .inl f3)), (r4, .inr (0, [.ref j4, .int (nI L4.length)])), (j4, .inl (cI, 30, .inl f4))]) [0, 1, 2, 3, 4, 7, 8, 5, 6] (by decide) rfl
        have hKc := hK.sub (tys' := [(cI, .int)]) [0] rfl
        have hFc := va_free (wc := [(sh, .inr (1, [.ref r1, .ref r2, .ref r3, .ref r4, .int (nI rc), .int (nI bo), .int lv])), (r1, .inr (0, [.ref j1, .int (nI L1.length)])), (j1, .inl (cI, 30, .inl f1)), (r2, .inr (0, [.ref j2, .int (nI L2.length)])), (j2, .inl (cI, 30, .inl f2)), (r3, .inr (0, [.ref j3, .int (nI L3.length)])), (j3, .inl (cI, 30, .inl f3)), (r4, .inr (0, [.ref j4, .int (nI L4.length)])), (j4, .inl (cI, 30, .inl f4))]) hD hS hA [0, 1, 2, 3, 4, 7, 8, 5, 6] rfl
        refine va_callq (va_runV (As := [.int (nI 4)]) (rest := []) ⟨hx, hb, hml, hown, hts⟩ (c_X1_rowAt_4 l G cI sh r1 r2 r3 r4 j1 j2 j3 j4 f1 f2 f3 f4 L1 L2 L3 L4 rc bo lv hR1 hR2 hR3 hR4  H_21.size) (cwV 1 hts gX1_whereIs_X1_rowAt rfl rfl rfl (by decide +kernel) ⟨Nat.le_of_ble_eq_true rfl, Nat.le_of_ble_eq_true rfl⟩) (g_preV (As := [.int (nI 4)]) hPc hKc hDc 0 rfl rfl) rfl rfl hl.1 rfl (lv_room (Nat.le_of_ble_eq_true rfl)) dX1_whereIs_9 ⟨(Nat.le_of_ble_eq_true rfl), (Nat.le_of_ble_eq_true rfl)⟩) hS (fun q _ h => hFc q h) hFc (fun r_27 u_28 t H_26 locs ht hvm hw hB hz1 hk1 hS1 => ?_)
        subst hw
        obtain ⟨hP1, hD1⟩ := g_join (wc := [(sh, .inr (1, [.ref r1, .ref r2, .ref r3, .ref r4, .int (nI rc), .int (nI bo), .int lv])), (r1, .inr (0, [.ref j1, .int (nI L1.length)])), (j1, .inl (cI, 30, .inl f1)), (r2, .inr (0, [.ref j2, .int (nI L2.length)])), (j2, .inl (cI, 30, .inl f2)), (r3, .inr (0, [.ref j3, .int (nI L3.length)])), (j3, .inl (cI, 30, .inl f3)), (r4, .inr (0, [.ref j4, .int (nI L4.length)])), (j4, .inl (cI, 30, .inl f4))]) (wr := []) (w1 := [(sh, .inr (1, [.ref r1, .ref r2, .ref r3, .ref r4, .int (nI rc), .int (nI bo), .int lv])), (r1, .inr (0, [.ref j1, .int (nI L1.length)])), (j1, .inl (cI, 30, .inl f1)), (r2, .inr (0, [.ref j2, .int (nI L2.length)])), (j2, .inl (cI, 30, .inl f2)), (r3, .inr (0, [.ref j3, .int (nI L3.length)])), (j3, .inl (cI, 30, .inl f3)), (r4, .inr (0, [.ref j4, .int (nI L4.length)])), (j4, .inl (cI, 30, .inl f4))]) hP hD [0, 1, 2, 3, 4, 7, 8, 5, 6] [] rfl rfl (by decide) (by decide) ht hk1 hFc hB
        clear hB hk1 hz1 hvm ht hPc hDc hKc hFc
        clear hP hD hS
        have hP : va_P G vwCl [(sh, .inr (1, [.ref r1, .ref r2, .ref r3, .ref r4, .int (nI rc), .int (nI bo), .int lv])), (r1, .inr (0, [.ref j1, .int (nI L1.length)])), (j1, .inl (cI, 30, .inl f1)), (r2, .inr (0, [.ref j2, .int (nI L2.length)])), (j2, .inl (cI, 30, .inl f2)), (r3, .inr (0, [.ref j3, .int (nI L3.length)])), (j3, .inl (cI, 30, .inl f3)), (r4, .inr (0, [.ref j4, .int (nI L4.length)])), (j4, .inl (cI, 30, .inl f4))] H_26 := hP1
        have hD : va_D A [(sh, .inr (1, [.ref r1, .ref r2, .ref r3, .ref r4, .int (nI rc), .int (nI bo), .int lv])), (r1, .inr (0, [.ref j1, .int (nI L1.length)])), (j1, .inl (cI, 30, .inl f1)), (r2, .inr (0, [.ref j2, .int (nI L2.length)])), (j2, .inl (cI, 30, .inl f2)), (r3, .inr (0, [.ref j3, .int (nI L3.length)])), (j3, .inl (cI, 30, .inl f3)), (r4, .inr (0, [.ref j4, .int (nI L4.length)])), (j4, .inl (cI, 30, .inl f4))] := hD1
        have hS := hS1
        clear hP1 hD1 hS1
        refine W.eq (g2 := F0 m 12 ls [.ref r4]) rfl ?_
        refine lv_astore_n (lv' := [(3, .ref r4), (2, .int (nI 4)), (0, .ref sh), (1, .int jar)]) hx hb dX1_whereIs_12 rfl hl (by decide) rfl (fun ls hl => ?_)
        refine lv_aload_n hx hb dX1_whereIs_13 rfl (lv_at hl 0 rfl) ?_
        refine lv_ifnull hx hb dX1_whereIs_14 ?_
        refine lv_aload_n hx hb dX1_whereIs_17 rfl (lv_at hl 0 rfl) ?_
        refine lv_iload_n hx hb dX1_whereIs_18 rfl (lv_at hl 3 rfl) ?_
        have hPc := hP.sub (ws' := [(r4, .inr (0, [.ref j4, .int (nI L4.length)])), (j4, .inl (cI, 30, .inl f4))]) [7, 8] rfl
        have hDc := hD.sub (ws' := [(r4, .inr (0, [.ref j4, .int (nI L4.length)])), (j4, .inl (cI, 30, .inl f4))]) [7, 8] (by decide) rfl
        have hKc := hK.sub (tys' := [(cI, .int)]) [0] rfl
        have hFc := va_free (wc := [(r4, .inr (0, [.ref j4, .int (nI L4.length)])), (j4, .inl (cI, 30, .inl f4))]) hD hS hA [7, 8] rfl
        refine va_calli (va_runV (As := [.int jar]) (rest := []) ⟨hx, hb, hml, hown, hts⟩ (c_X0_placeOf l G cI r4 j4 f4 L4 hR4 (by omega) jar H_26.size) (cwV 1 hts gX1_whereIs_X0_placeOf rfl rfl rfl (by decide +kernel) ⟨Nat.le_of_ble_eq_true rfl, Nat.le_of_ble_eq_true rfl⟩) (g_preV (As := [.int jar]) hPc hKc hDc 0 rfl rfl) rfl rfl hl.1 rfl (lv_room (Nat.le_of_ble_eq_true rfl)) dX1_whereIs_19 ⟨(Nat.le_of_ble_eq_true rfl), (Nat.le_of_ble_eq_true rfl)⟩) hS (fun q _ h => hFc q h) hFc (fun r_30 u_31 t H_29 locs ht hvm hw hB hz1 hk1 hS1 => ?_)
        subst hw
        obtain ⟨hP1, hD1⟩ := g_join (wc := [(r4, .inr (0, [.ref j4, .int (nI L4.length)])), (j4, .inl (cI, 30, .inl f4))]) (wr := [(sh, .inr (1, [.ref r1, .ref r2, .ref r3, .ref r4, .int (nI rc), .int (nI bo), .int lv])), (r1, .inr (0, [.ref j1, .int (nI L1.length)])), (j1, .inl (cI, 30, .inl f1)), (r2, .inr (0, [.ref j2, .int (nI L2.length)])), (j2, .inl (cI, 30, .inl f2)), (r3, .inr (0, [.ref j3, .int (nI L3.length)])), (j3, .inl (cI, 30, .inl f3))]) (w1 := [(r4, .inr (0, [.ref j4, .int (nI L4.length)])), (j4, .inl (cI, 30, .inl f4))]) hP hD [7, 8] [0, 1, 2, 3, 4, 5, 6] rfl rfl (by decide) (by decide) ht hk1 hFc hB
        clear hB hk1 hz1 hvm ht hPc hDc hKc hFc
        clear hP hD hS
        have hP : va_P G vwCl [(sh, .inr (1, [.ref r1, .ref r2, .ref r3, .ref r4, .int (nI rc), .int (nI bo), .int lv])), (r1, .inr (0, [.ref j1, .int (nI L1.length)])), (j1, .inl (cI, 30, .inl f1)), (r2, .inr (0, [.ref j2, .int (nI L2.length)])), (j2, .inl (cI, 30, .inl f2)), (r3, .inr (0, [.ref j3, .int (nI L3.length)])), (j3, .inl (cI, 30, .inl f3)), (r4, .inr (0, [.ref j4, .int (nI L4.length)])), (j4, .inl (cI, 30, .inl f4))] H_29 := hP1
        have hD : va_D A [(sh, .inr (1, [.ref r1, .ref r2, .ref r3, .ref r4, .int (nI rc), .int (nI bo), .int lv])), (r1, .inr (0, [.ref j1, .int (nI L1.length)])), (j1, .inl (cI, 30, .inl f1)), (r2, .inr (0, [.ref j2, .int (nI L2.length)])), (j2, .inl (cI, 30, .inl f2)), (r3, .inr (0, [.ref j3, .int (nI L3.length)])), (j3, .inl (cI, 30, .inl f3)), (r4, .inr (0, [.ref j4, .int (nI L4.length)])), (j4, .inl (cI, 30, .inl f4))] := hD1
        have hS := hS1
        clear hP1 hD1 hS1
        refine lv_iconst (v := (-1)) hx hb dX1_whereIs_22 (by decide +kernel) ?_
        refine lv_icmp_eq (tgt := 28) hx hb dX1_whereIs_23 (by decide) (fun c_32 => ?_) (fun c_32 => ?_)
        · have m4 : jar ∉ L4 := pos_out (by omega) c_32
          refine lv_iinc (v := (nI 5)) (lv' := [(2, .int (nI 5)), (3, .ref r4), (0, .ref sh), (1, .int jar)]) hx hb dX1_whereIs_28 hl (k := 1) rfl (by decide +kernel) (by decide) rfl (fun ls hl => ?_)
          refine lv_goto (tgt := 2) hx hb dX1_whereIs_31 (by decide) ?_
          refine lv_iload_n hx hb dX1_whereIs_2 rfl (lv_at hl 0 rfl) ?_
          refine lv_iconst (v := (nI 4)) hx hb dX1_whereIs_3 (by decide +kernel) ?_
          refine g_icmp_gt (tgt := 34) hx hb dX1_whereIs_4 (by decide) (by decide) (by decide) (fun c_33 => ?_) (fun c_33 => False.elim (by omega))
          refine lv_iconst (v := (nI 0)) hx hb dX1_whereIs_34 (by decide +kernel) ?_
          have hP9 := hP.sub (ws' := [(sh, .inr (1, [.ref r1, .ref r2, .ref r3, .ref r4, .int (nI rc), .int (nI bo), .int lv])), (r1, .inr (0, [.ref j1, .int (nI L1.length)])), (j1, .inl (cI, 30, .inl f1)), (r2, .inr (0, [.ref j2, .int (nI L2.length)])), (j2, .inl (cI, 30, .inl f2)), (r3, .inr (0, [.ref j3, .int (nI L3.length)])), (j3, .inl (cI, 30, .inl f3)), (r4, .inr (0, [.ref j4, .int (nI L4.length)])), (j4, .inl (cI, 30, .inl f4))]) [0, 1, 2, 3, 4, 5, 6, 7, 8] rfl
          have hD9 := hD.sub (ws' := [(sh, .inr (1, [.ref r1, .ref r2, .ref r3, .ref r4, .int (nI rc), .int (nI bo), .int lv])), (r1, .inr (0, [.ref j1, .int (nI L1.length)])), (j1, .inl (cI, 30, .inl f1)), (r2, .inr (0, [.ref j2, .int (nI L2.length)])), (j2, .inl (cI, 30, .inl f2)), (r3, .inr (0, [.ref j3, .int (nI L3.length)])), (j3, .inl (cI, 30, .inl f3)), (r4, .inr (0, [.ref j4, .int (nI L4.length)])), (j4, .inl (cI, 30, .inl f4))]) [0, 1, 2, 3, 4, 5, 6, 7, 8] (by decide) rfl
          exact W.iret (v := (nI 0)) hx hb hr (fun t ht hW => ⟨⟨(nI 0), (), rfl, (whr0 m1 m2 m3 m4), g_at hP9 hK hD9 ht hW⟩, hS.F ht⟩) hS.2.2 dX1_whereIs_35
        · have m4 : jar ∈ L4 := pos_in (by omega) c_32
          refine lv_iload_n hx hb dX1_whereIs_26 rfl (lv_at hl 1 rfl) ?_
          have hP9 := hP.sub (ws' := [(sh, .inr (1, [.ref r1, .ref r2, .ref r3, .ref r4, .int (nI rc), .int (nI bo), .int lv])), (r1, .inr (0, [.ref j1, .int (nI L1.length)])), (j1, .inl (cI, 30, .inl f1)), (r2, .inr (0, [.ref j2, .int (nI L2.length)])), (j2, .inl (cI, 30, .inl f2)), (r3, .inr (0, [.ref j3, .int (nI L3.length)])), (j3, .inl (cI, 30, .inl f3)), (r4, .inr (0, [.ref j4, .int (nI L4.length)])), (j4, .inl (cI, 30, .inl f4))]) [0, 1, 2, 3, 4, 5, 6, 7, 8] rfl
          have hD9 := hD.sub (ws' := [(sh, .inr (1, [.ref r1, .ref r2, .ref r3, .ref r4, .int (nI rc), .int (nI bo), .int lv])), (r1, .inr (0, [.ref j1, .int (nI L1.length)])), (j1, .inl (cI, 30, .inl f1)), (r2, .inr (0, [.ref j2, .int (nI L2.length)])), (j2, .inl (cI, 30, .inl f2)), (r3, .inr (0, [.ref j3, .int (nI L3.length)])), (j3, .inl (cI, 30, .inl f3)), (r4, .inr (0, [.ref j4, .int (nI L4.length)])), (j4, .inl (cI, 30, .inl f4))]) [0, 1, 2, 3, 4, 5, 6, 7, 8] (by decide) rfl
          exact W.iret (v := (nI 4)) hx hb hr (fun t ht hW => ⟨⟨(nI 4), (), rfl, (whr4 m1 m2 m3 m4), g_at hP9 hK hD9 ht hW⟩, hS.F ht⟩) hS.2.2 dX1_whereIs_27
      · have m3 : jar ∈ L3 := pos_in (by omega) c_24
        refine lv_iload_n hx hb dX1_whereIs_26 rfl (lv_at hl 1 rfl) ?_
        have hP9 := hP.sub (ws' := [(sh, .inr (1, [.ref r1, .ref r2, .ref r3, .ref r4, .int (nI rc), .int (nI bo), .int lv])), (r1, .inr (0, [.ref j1, .int (nI L1.length)])), (j1, .inl (cI, 30, .inl f1)), (r2, .inr (0, [.ref j2, .int (nI L2.length)])), (j2, .inl (cI, 30, .inl f2)), (r3, .inr (0, [.ref j3, .int (nI L3.length)])), (j3, .inl (cI, 30, .inl f3)), (r4, .inr (0, [.ref j4, .int (nI L4.length)])), (j4, .inl (cI, 30, .inl f4))]) [0, 1, 2, 3, 4, 7, 8, 5, 6] rfl
        have hD9 := hD.sub (ws' := [(sh, .inr (1, [.ref r1, .ref r2, .ref r3, .ref r4, .int (nI rc), .int (nI bo), .int lv])), (r1, .inr (0, [.ref j1, .int (nI L1.length)])), (j1, .inl (cI, 30, .inl f1)), (r2, .inr (0, [.ref j2, .int (nI L2.length)])), (j2, .inl (cI, 30, .inl f2)), (r3, .inr (0, [.ref j3, .int (nI L3.length)])), (j3, .inl (cI, 30, .inl f3)), (r4, .inr (0, [.ref j4, .int (nI L4.length)])), (j4, .inl (cI, 30, .inl f4))]) [0, 1, 2, 3, 4, 7, 8, 5, 6] (by decide) rfl
        exact W.iret (v := (nI 3)) hx hb hr (fun t ht hW => ⟨⟨(nI 3), (), rfl, (whr3 m1 m2 m3), g_at hP9 hK hD9 ht hW⟩, hS.F ht⟩) hS.2.2 dX1_whereIs_27
    · have m2 : jar ∈ L2 := pos_in (by omega) c_16
      refine lv_iload_n hx hb dX1_whereIs_26 rfl (lv_at hl 1 rfl) ?_
      have hP9 := hP.sub (ws' := [(sh, .inr (1, [.ref r1, .ref r2, .ref r3, .ref r4, .int (nI rc), .int (nI bo), .int lv])), (r1, .inr (0, [.ref j1, .int (nI L1.length)])), (j1, .inl (cI, 30, .inl f1)), (r2, .inr (0, [.ref j2, .int (nI L2.length)])), (j2, .inl (cI, 30, .inl f2)), (r3, .inr (0, [.ref j3, .int (nI L3.length)])), (j3, .inl (cI, 30, .inl f3)), (r4, .inr (0, [.ref j4, .int (nI L4.length)])), (j4, .inl (cI, 30, .inl f4))]) [0, 1, 2, 7, 8, 3, 4, 5, 6] rfl
      have hD9 := hD.sub (ws' := [(sh, .inr (1, [.ref r1, .ref r2, .ref r3, .ref r4, .int (nI rc), .int (nI bo), .int lv])), (r1, .inr (0, [.ref j1, .int (nI L1.length)])), (j1, .inl (cI, 30, .inl f1)), (r2, .inr (0, [.ref j2, .int (nI L2.length)])), (j2, .inl (cI, 30, .inl f2)), (r3, .inr (0, [.ref j3, .int (nI L3.length)])), (j3, .inl (cI, 30, .inl f3)), (r4, .inr (0, [.ref j4, .int (nI L4.length)])), (j4, .inl (cI, 30, .inl f4))]) [0, 1, 2, 7, 8, 3, 4, 5, 6] (by decide) rfl
      exact W.iret (v := (nI 2)) hx hb hr (fun t ht hW => ⟨⟨(nI 2), (), rfl, (whr2 m1 m2), g_at hP9 hK hD9 ht hW⟩, hS.F ht⟩) hS.2.2 dX1_whereIs_27
  · have m1 : jar ∈ L1 := pos_in (by omega) c_8
    refine lv_iload_n hx hb dX1_whereIs_26 rfl (lv_at hl 1 rfl) ?_
    have hP9 := hP.sub (ws' := [(sh, .inr (1, [.ref r1, .ref r2, .ref r3, .ref r4, .int (nI rc), .int (nI bo), .int lv])), (r1, .inr (0, [.ref j1, .int (nI L1.length)])), (j1, .inl (cI, 30, .inl f1)), (r2, .inr (0, [.ref j2, .int (nI L2.length)])), (j2, .inl (cI, 30, .inl f2)), (r3, .inr (0, [.ref j3, .int (nI L3.length)])), (j3, .inl (cI, 30, .inl f3)), (r4, .inr (0, [.ref j4, .int (nI L4.length)])), (j4, .inl (cI, 30, .inl f4))]) [0, 7, 8, 1, 2, 3, 4, 5, 6] rfl
    have hD9 := hD.sub (ws' := [(sh, .inr (1, [.ref r1, .ref r2, .ref r3, .ref r4, .int (nI rc), .int (nI bo), .int lv])), (r1, .inr (0, [.ref j1, .int (nI L1.length)])), (j1, .inl (cI, 30, .inl f1)), (r2, .inr (0, [.ref j2, .int (nI L2.length)])), (j2, .inl (cI, 30, .inl f2)), (r3, .inr (0, [.ref j3, .int (nI L3.length)])), (j3, .inl (cI, 30, .inl f3)), (r4, .inr (0, [.ref j4, .int (nI L4.length)])), (j4, .inl (cI, 30, .inl f4))]) [0, 7, 8, 1, 2, 3, 4, 5, 6] (by decide) rfl
    exact W.iret (v := (nI 1)) hx hb hr (fun t ht hW => ⟨⟨(nI 1), (), rfl, (whr1 m1), g_at hP9 hK hD9 ht hW⟩, hS.F ht⟩) hS.2.2 dX1_whereIs_27

set_option maxHeartbeats 4000000 in
set_option maxRecDepth 100000 in
theorem c_X1_step_4 (l : Launch) (G : va_G) (cI : ClassId) (sh r1 r2 r3 r4 j1 j2 j3 j4 : Nat) (f1 f2 f3 f4 : Nat → Int32) (L1 L2 L3 L4 : List Int32) (rc bo : Nat) (lv : Int32) (hR1 : Rw f1 L1) (hR2 : Rw f2 L2) (hR3 : Rw f3 L3) (hR4 : Rw f4 L4) (h0 : 0 < L3.length) (h1 : L3.length ≤ 30) (h2 : L4.length ≤ 30) (sz : Nat) : Met l yX1_step wsX1_step ({ frames := 1, cells := 0, slots := 0, locals := 20 }) (va_Pc [.ref sh, .ref r4, .ref r3] (gpre G [(cI, .int)] [(sh, .inr (1, [.ref r1, .ref r2, .ref r3, .ref r4, .int (nI rc), .int (nI bo), .int lv])), (r1, .inr (0, [.ref j1, .int (nI L1.length)])), (j1, .inl (cI, 30, .inl f1)), (r2, .inr (0, [.ref j2, .int (nI L2.length)])), (j2, .inl (cI, 30, .inl f2)), (r3, .inr (0, [.ref j3, .int (nI L3.length)])), (j3, .inl (cI, 30, .inl f3)), (r4, .inr (0, [.ref j4, .int (nI L4.length)])), (j4, .inl (cI, 30, .inl f4))] sz)) (va_Qi (fun (z : Int32) (_ : Unit) => z = nI (stp L4.length L3.length)) (fun (_ : Unit) t => gat G [(cI, .int)] (va_A [(sh, .inr (1, [.ref r1, .ref r2, .ref r3, .ref r4, .int (nI rc), .int (nI bo), .int lv])), (r1, .inr (0, [.ref j1, .int (nI L1.length)])), (j1, .inl (cI, 30, .inl f1)), (r2, .inr (0, [.ref j2, .int (nI L2.length)])), (j2, .inl (cI, 30, .inl f2)), (r3, .inr (0, [.ref j3, .int (nI L3.length)])), (j3, .inl (cI, 30, .inl f3)), (r4, .inr (0, [.ref j4, .int (nI L4.length)])), (j4, .inl (cI, 30, .inl f4))] sz) [(sh, .inr (1, [.ref r1, .ref r2, .ref r3, .ref r4, .int (nI rc), .int (nI bo), .int lv])), (r1, .inr (0, [.ref j1, .int (nI L1.length)])), (j1, .inl (cI, 30, .inl f1)), (r2, .inr (0, [.ref j2, .int (nI L2.length)])), (j2, .inl (cI, 30, .inl f2)), (r3, .inr (0, [.ref j3, .int (nI L3.length)])), (j3, .inl (cI, 30, .inl f3)), (r4, .inr (0, [.ref j4, .int (nI L4.length)])), (j4, .inl (cI, 30, .inl f4))] t) (va_A [(sh, .inr (1, [.ref r1, .ref r2, .ref r3, .ref r4, .int (nI rc), .int (nI bo), .int lv])), (r1, .inr (0, [.ref j1, .int (nI L1.length)])), (j1, .inl (cI, 30, .inl f1)), (r2, .inr (0, [.ref j2, .int (nI L2.length)])), (j2, .inl (cI, 30, .inl f2)), (r3, .inr (0, [.ref j3, .int (nI L3.length)])), (j3, .inl (cI, 30, .inl f3)), (r4, .inr (0, [.ref j4, .int (nI L4.length)])), (j4, .inl (cI, 30, .inl f4))] sz)) 0 0 (va_A [(sh, .inr (1, [.ref r1, .ref r2, .ref r3, .ref r4, .int (nI rc), .int (nI bo), .int lv])), (r1, .inr (0, [.ref j1, .int (nI L1.length)])), (j1, .inl (cI, 30, .inl f1)), (r2, .inr (0, [.ref j2, .int (nI L2.length)])), (j2, .inl (cI, 30, .inl f2)), (r3, .inr (0, [.ref j3, .int (nI L3.length)])), (j3, .inl (cI, 30, .inl f3)), (r4, .inr (0, [.ref j4, .int (nI L4.length)])), (j4, .inl (cI, 30, .inl f4))] sz) := by
  refine Met.ofW (cc := cX1_step) (maxL := 4) (ret := (some .int)) (by decide) rfl ?_
  intro p e s m args below meth c s₁ B hml hv
  obtain ⟨rfl, hsz, hP, hK, hD0⟩ := hv
  have hx := B.exec
  have hb := B.bytes
  have hr := B.returns
  have hts := atoms_spec (ws := wsX1_step) B.pre
  have hown : s.vm.findClass RX1 = some m.cls := findClass_of_methodNamed B.named
  have hlocks := B.notSynchronized
  subst hsz
  have hD := hD0.self (sz := s.heap.size)
  clear hD0
  generalize hAe : va_A [(sh, .inr (1, [.ref r1, .ref r2, .ref r3, .ref r4, .int (nI rc), .int (nI bo), .int lv])), (r1, .inr (0, [.ref j1, .int (nI L1.length)])), (j1, .inl (cI, 30, .inl f1)), (r2, .inr (0, [.ref j2, .int (nI L2.length)])), (j2, .inl (cI, 30, .inl f2)), (r3, .inr (0, [.ref j3, .int (nI L3.length)])), (j3, .inl (cI, 30, .inl f3)), (r4, .inr (0, [.ref j4, .int (nI L4.length)])), (j4, .inl (cI, 30, .inl f4))] s.heap.size = A at hD ⊢
  have hA : ∀ q : Nat, s.heap.size ≤ q → A q := fun q h => by rw [← hAe]; exact Or.inr h
  have hS : va_S A s.heap s.heap [] := va_S.rf
  have hP : va_P G vwCl [(sh, .inr (1, [.ref r1, .ref r2, .ref r3, .ref r4, .int (nI rc), .int (nI bo), .int lv])), (r1, .inr (0, [.ref j1, .int (nI L1.length)])), (j1, .inl (cI, 30, .inl f1)), (r2, .inr (0, [.ref j2, .int (nI L2.length)])), (j2, .inl (cI, 30, .inl f2)), (r3, .inr (0, [.ref j3, .int (nI L3.length)])), (j3, .inl (cI, 30, .inl f3)), (r4, .inr (0, [.ref j4, .int (nI L4.length)])), (j4, .inl (cI, 30, .inl f4))] s.heap := hP
  have hl := lv_entry ([.ref sh, .ref r4, .ref r3]) (n := 4) (Nat.le_of_ble_eq_true rfl)
  rw [lg_entry_eq]
  generalize (lg_sl ([.ref sh, .ref r4, .ref r3]) ++ List.replicate (4 - (lg_sl ([.ref sh, .ref r4, .ref r3])).length) Slot.unset).toArray = ls at hl ⊢
  have hl : lv_has ls 4 [(0, .ref sh), (1, .ref r4), (2, .ref r3)] := hl
  refine lv_aload_n hx hb dX1_step_0 rfl (lv_at hl 2 rfl) ?_
  have hPc := hP.sub (ws' := [(r3, .inr (0, [.ref j3, .int (nI L3.length)])), (j3, .inl (cI, 30, .inl f3))]) [5, 6] rfl
  have hDc := hD.sub (ws' := [(r3, .inr (0, [.ref j3, .int (nI L3.length)])), (j3, .inl (cI, 30, .inl f3))]) [5, 6] (by decide) rfl
  have hKc := hK.sub (tys' := [(cI, .int)]) [0] rfl
  have hFc := va_free (wc := [(r3, .inr (0, [.ref j3, .int (nI L3.length)])), (j3, .inl (cI, 30, .inl f3))]) hD hS hA [5, 6] rfl
  refine va_calli (va_runV (As := []) (rest := []) ⟨hx, hb, hml, hown, hts⟩ (c_X0_length l G cI r3 j3 f3 L3 hR3 (by omega)  s.heap.size) (cwV 0 hts gX1_step_X0_length rfl rfl rfl (by decide +kernel) ⟨Nat.le_of_ble_eq_true rfl, Nat.le_of_ble_eq_true rfl⟩) (g_preV (As := []) hPc hKc hDc 0 rfl rfl) rfl rfl hl.1 rfl (lv_room (Nat.le_of_ble_eq_true rfl)) dX1_step_1 ⟨(Nat.le_of_ble_eq_true rfl), (Nat.le_of_ble_eq_true rfl)⟩) hS (fun q _ h => hFc q h) hFc (fun r_2 u_3 t H_1 locs ht hvm hw hB hz1 hk1 hS1 => ?_)
  subst hw
  obtain ⟨hP1, hD1⟩ := g_join (wc := [(r3, .inr (0, [.ref j3, .int (nI L3.length)])), (j3, .inl (cI, 30, .inl f3))]) (wr := [(sh, .inr (1, [.ref r1, .ref r2, .ref r3, .ref r4, .int (nI rc), .int (nI bo), .int lv])), (r1, .inr (0, [.ref j1, .int (nI L1.length)])), (j1, .inl (cI, 30, .inl f1)), (r2, .inr (0, [.ref j2, .int (nI L2.length)])), (j2, .inl (cI, 30, .inl f2)), (r4, .inr (0, [.ref j4, .int (nI L4.length)])), (j4, .inl (cI, 30, .inl f4))]) (w1 := [(r3, .inr (0, [.ref j3, .int (nI L3.length)])), (j3, .inl (cI, 30, .inl f3))]) hP hD [5, 6] [0, 1, 2, 3, 4, 7, 8] rfl rfl (by decide) (by decide) ht hk1 hFc hB
  clear hB hk1 hz1 hvm ht hPc hDc hKc hFc
  clear hP hD hS
  have hP : va_P G vwCl [(sh, .inr (1, [.ref r1, .ref r2, .ref r3, .ref r4, .int (nI rc), .int (nI bo), .int lv])), (r1, .inr (0, [.ref j1, .int (nI L1.length)])), (j1, .inl (cI, 30, .inl f1)), (r2, .inr (0, [.ref j2, .int (nI L2.length)])), (j2, .inl (cI, 30, .inl f2)), (r4, .inr (0, [.ref j4, .int (nI L4.length)])), (j4, .inl (cI, 30, .inl f4)), (r3, .inr (0, [.ref j3, .int (nI L3.length)])), (j3, .inl (cI, 30, .inl f3))] H_1 := hP1
  have hD : va_D A [(sh, .inr (1, [.ref r1, .ref r2, .ref r3, .ref r4, .int (nI rc), .int (nI bo), .int lv])), (r1, .inr (0, [.ref j1, .int (nI L1.length)])), (j1, .inl (cI, 30, .inl f1)), (r2, .inr (0, [.ref j2, .int (nI L2.length)])), (j2, .inl (cI, 30, .inl f2)), (r4, .inr (0, [.ref j4, .int (nI L4.length)])), (j4, .inl (cI, 30, .inl f4)), (r3, .inr (0, [.ref j3, .int (nI L3.length)])), (j3, .inl (cI, 30, .inl f3))] := hD1
  have hS := hS1
  clear hP1 hD1 hS1
  refine lv_istore_n (lv' := [(3, .int (nI L3.length)), (0, .ref sh), (1, .ref r4), (2, .ref r3)]) hx hb dX1_step_4 rfl hl (by decide) rfl (fun ls hl => ?_)
  refine lv_iload_n hx hb dX1_step_5 rfl (lv_at hl 0 rfl) ?_
  refine g_if_gt (tgt := 11) hx hb dX1_step_6 (by decide) (by omega) (fun c_4 => ?_) (fun c_4 => False.elim (by omega))
  refine lv_iconst (v := (nI 1)) hx hb dX1_step_11 (by decide +kernel) ?_
  refine lv_aload_n hx hb dX1_step_12 rfl (lv_at hl 2 rfl) ?_
  have hPc := hP.sub (ws' := [(r4, .inr (0, [.ref j4, .int (nI L4.length)])), (j4, .inl (cI, 30, .inl f4))]) [5, 6] rfl
  have hDc := hD.sub (ws' := [(r4, .inr (0, [.ref j4, .int (nI L4.length)])), (j4, .inl (cI, 30, .inl f4))]) [5, 6] (by decide) rfl
  have hKc := hK.sub (tys' := [(cI, .int)]) [0] rfl
  have hFc := va_free (wc := [(r4, .inr (0, [.ref j4, .int (nI L4.length)])), (j4, .inl (cI, 30, .inl f4))]) hD hS hA [5, 6] rfl
  refine va_calli (va_runV (As := []) (rest := [.int (nI 1)]) ⟨hx, hb, hml, hown, hts⟩ (c_X0_length l G cI r4 j4 f4 L4 hR4 (by omega)  H_1.size) (cwV 0 hts gX1_step_X0_length rfl rfl rfl (by decide +kernel) ⟨Nat.le_of_ble_eq_true rfl, Nat.le_of_ble_eq_true rfl⟩) (g_preV (As := []) hPc hKc hDc 0 rfl rfl) rfl rfl hl.1 rfl (lv_room (Nat.le_of_ble_eq_true rfl)) dX1_step_13 ⟨(Nat.le_of_ble_eq_true rfl), (Nat.le_of_ble_eq_true rfl)⟩) hS (fun q _ h => hFc q h) hFc (fun r_6 u_7 t H_5 locs ht hvm hw hB hz1 hk1 hS1 => ?_)
  subst hw
  obtain ⟨hP1, hD1⟩ := g_join (wc := [(r4, .inr (0, [.ref j4, .int (nI L4.length)])), (j4, .inl (cI, 30, .inl f4))]) (wr := [(sh, .inr (1, [.ref r1, .ref r2, .ref r3, .ref r4, .int (nI rc), .int (nI bo), .int lv])), (r1, .inr (0, [.ref j1, .int (nI L1.length)])), (j1, .inl (cI, 30, .inl f1)), (r2, .inr (0, [.ref j2, .int (nI L2.length)])), (j2, .inl (cI, 30, .inl f2)), (r3, .inr (0, [.ref j3, .int (nI L3.length)])), (j3, .inl (cI, 30, .inl f3))]) (w1 := [(r4, .inr (0, [.ref j4, .int (nI L4.length)])), (j4, .inl (cI, 30, .inl f4))]) hP hD [5, 6] [0, 1, 2, 3, 4, 7, 8] rfl rfl (by decide) (by decide) ht hk1 hFc hB
  clear hB hk1 hz1 hvm ht hPc hDc hKc hFc
  clear hP hD hS
  have hP : va_P G vwCl [(sh, .inr (1, [.ref r1, .ref r2, .ref r3, .ref r4, .int (nI rc), .int (nI bo), .int lv])), (r1, .inr (0, [.ref j1, .int (nI L1.length)])), (j1, .inl (cI, 30, .inl f1)), (r2, .inr (0, [.ref j2, .int (nI L2.length)])), (j2, .inl (cI, 30, .inl f2)), (r3, .inr (0, [.ref j3, .int (nI L3.length)])), (j3, .inl (cI, 30, .inl f3)), (r4, .inr (0, [.ref j4, .int (nI L4.length)])), (j4, .inl (cI, 30, .inl f4))] H_5 := hP1
  have hD : va_D A [(sh, .inr (1, [.ref r1, .ref r2, .ref r3, .ref r4, .int (nI rc), .int (nI bo), .int lv])), (r1, .inr (0, [.ref j1, .int (nI L1.length)])), (j1, .inl (cI, 30, .inl f1)), (r2, .inr (0, [.ref j2, .int (nI L2.length)])), (j2, .inl (cI, 30, .inl f2)), (r3, .inr (0, [.ref j3, .int (nI L3.length)])), (j3, .inl (cI, 30, .inl f3)), (r4, .inr (0, [.ref j4, .int (nI L4.length)])), (j4, .inl (cI, 30, .inl f4))] := hD1
  have hS := hS1
  clear hP1 hD1 hS1
  refine lv_iload_n hx hb dX1_step_16 rfl (lv_at hl 0 rfl) ?_
  refine g_idiv hx hb dX1_step_17 (by omega) (by omega) (by omega) ?_
  refine g_mmax hx hb (hml.trans hl.1.symm) hown (hts (.methodLink RX1 77 Lib.Math.max.name) (by decide +kernel)) (hts (.static Lib.Math.max.name) (by decide +kernel)) (hts (.initialized "java/lang/Math") (by decide +kernel)) (hts (.code Lib.Math.max.name Lib.Math.max.code 2 (some .int)) (by decide +kernel)) (Nat.le_of_ble_eq_true rfl) (Nat.le_of_ble_eq_true rfl) (Nat.le_of_ble_eq_true rfl) (Nat.le_of_ble_eq_true rfl) (by decide) (Nat.lt_of_le_of_lt (Nat.div_le_self _ _) (by omega)) dX1_step_18 ?_
  have hP9 := hP.sub (ws' := [(sh, .inr (1, [.ref r1, .ref r2, .ref r3, .ref r4, .int (nI rc), .int (nI bo), .int lv])), (r1, .inr (0, [.ref j1, .int (nI L1.length)])), (j1, .inl (cI, 30, .inl f1)), (r2, .inr (0, [.ref j2, .int (nI L2.length)])), (j2, .inl (cI, 30, .inl f2)), (r3, .inr (0, [.ref j3, .int (nI L3.length)])), (j3, .inl (cI, 30, .inl f3)), (r4, .inr (0, [.ref j4, .int (nI L4.length)])), (j4, .inl (cI, 30, .inl f4))]) [0, 1, 2, 3, 4, 5, 6, 7, 8] rfl
  have hD9 := hD.sub (ws' := [(sh, .inr (1, [.ref r1, .ref r2, .ref r3, .ref r4, .int (nI rc), .int (nI bo), .int lv])), (r1, .inr (0, [.ref j1, .int (nI L1.length)])), (j1, .inl (cI, 30, .inl f1)), (r2, .inr (0, [.ref j2, .int (nI L2.length)])), (j2, .inl (cI, 30, .inl f2)), (r3, .inr (0, [.ref j3, .int (nI L3.length)])), (j3, .inl (cI, 30, .inl f3)), (r4, .inr (0, [.ref j4, .int (nI L4.length)])), (j4, .inl (cI, 30, .inl f4))]) [0, 1, 2, 3, 4, 5, 6, 7, 8] (by decide) rfl
  exact W.iret (v := (nI (max 1 (L4.length / L3.length)))) hx hb hr (fun t ht hW => ⟨⟨(nI (max 1 (L4.length / L3.length))), (), rfl, rfl, g_at hP9 hK hD9 ht hW⟩, hS.F ht⟩) hS.2.2 dX1_step_21

set_option maxHeartbeats 4000000 in
set_option maxRecDepth 100000 in
theorem c_X1_step_3 (l : Launch) (G : va_G) (cI : ClassId) (sh r1 r2 r3 r4 j1 j2 j3 j4 : Nat) (f1 f2 f3 f4 : Nat → Int32) (L1 L2 L3 L4 : List Int32) (rc bo : Nat) (lv : Int32) (hR1 : Rw f1 L1) (hR2 : Rw f2 L2) (hR3 : Rw f3 L3) (hR4 : Rw f4 L4) (h0 : 0 < L4.length) (h1 : L3.length ≤ 30) (h2 : L4.length ≤ 30) (sz : Nat) : Met l yX1_step wsX1_step ({ frames := 1, cells := 0, slots := 0, locals := 20 }) (va_Pc [.ref sh, .ref r3, .ref r4] (gpre G [(cI, .int)] [(sh, .inr (1, [.ref r1, .ref r2, .ref r3, .ref r4, .int (nI rc), .int (nI bo), .int lv])), (r1, .inr (0, [.ref j1, .int (nI L1.length)])), (j1, .inl (cI, 30, .inl f1)), (r2, .inr (0, [.ref j2, .int (nI L2.length)])), (j2, .inl (cI, 30, .inl f2)), (r3, .inr (0, [.ref j3, .int (nI L3.length)])), (j3, .inl (cI, 30, .inl f3)), (r4, .inr (0, [.ref j4, .int (nI L4.length)])), (j4, .inl (cI, 30, .inl f4))] sz)) (va_Qi (fun (z : Int32) (_ : Unit) => z = nI (stp L3.length L4.length)) (fun (_ : Unit) t => gat G [(cI, .int)] (va_A [(sh, .inr (1, [.ref r1, .ref r2, .ref r3, .ref r4, .int (nI rc), .int (nI bo), .int lv])), (r1, .inr (0, [.ref j1, .int (nI L1.length)])), (j1, .inl (cI, 30, .inl f1)), (r2, .inr (0, [.ref j2, .int (nI L2.length)])), (j2, .inl (cI, 30, .inl f2)), (r3, .inr (0, [.ref j3, .int (nI L3.length)])), (j3, .inl (cI, 30, .inl f3)), (r4, .inr (0, [.ref j4, .int (nI L4.length)])), (j4, .inl (cI, 30, .inl f4))] sz) [(sh, .inr (1, [.ref r1, .ref r2, .ref r3, .ref r4, .int (nI rc), .int (nI bo), .int lv])), (r1, .inr (0, [.ref j1, .int (nI L1.length)])), (j1, .inl (cI, 30, .inl f1)), (r2, .inr (0, [.ref j2, .int (nI L2.length)])), (j2, .inl (cI, 30, .inl f2)), (r3, .inr (0, [.ref j3, .int (nI L3.length)])), (j3, .inl (cI, 30, .inl f3)), (r4, .inr (0, [.ref j4, .int (nI L4.length)])), (j4, .inl (cI, 30, .inl f4))] t) (va_A [(sh, .inr (1, [.ref r1, .ref r2, .ref r3, .ref r4, .int (nI rc), .int (nI bo), .int lv])), (r1, .inr (0, [.ref j1, .int (nI L1.length)])), (j1, .inl (cI, 30, .inl f1)), (r2, .inr (0, [.ref j2, .int (nI L2.length)])), (j2, .inl (cI, 30, .inl f2)), (r3, .inr (0, [.ref j3, .int (nI L3.length)])), (j3, .inl (cI, 30, .inl f3)), (r4, .inr (0, [.ref j4, .int (nI L4.length)])), (j4, .inl (cI, 30, .inl f4))] sz)) 0 0 (va_A [(sh, .inr (1, [.ref r1, .ref r2, .ref r3, .ref r4, .int (nI rc), .int (nI bo), .int lv])), (r1, .inr (0, [.ref j1, .int (nI L1.length)])), (j1, .inl (cI, 30, .inl f1)), (r2, .inr (0, [.ref j2, .int (nI L2.length)])), (j2, .inl (cI, 30, .inl f2)), (r3, .inr (0, [.ref j3, .int (nI L3.length)])), (j3, .inl (cI, 30, .inl f3)), (r4, .inr (0, [.ref j4, .int (nI L4.length)])), (j4, .inl (cI, 30, .inl f4))] sz) := by
  refine Met.ofW (cc := cX1_step) (maxL := 4) (ret := (some .int)) (by decide) rfl ?_
  intro p e s m args below meth c s₁ B hml hv
  obtain ⟨rfl, hsz, hP, hK, hD0⟩ := hv
  have hx := B.exec
  have hb := B.bytes
  have hr := B.returns
  have hts := atoms_spec (ws := wsX1_step) B.pre
  have hown : s.vm.findClass RX1 = some m.cls := findClass_of_methodNamed B.named
  have hlocks := B.notSynchronized
  subst hsz
  have hD := hD0.self (sz := s.heap.size)
  clear hD0
  generalize hAe : va_A [(sh, .inr (1, [.ref r1, .ref r2, .ref r3, .ref r4, .int (nI rc), .int (nI bo), .int lv])), (r1, .inr (0, [.ref j1, .int (nI L1.length)])), (j1, .inl (cI, 30, .inl f1)), (r2, .inr (0, [.ref j2, .int (nI L2.length)])), (j2, .inl (cI, 30, .inl f2)), (r3, .inr (0, [.ref j3, .int (nI L3.length)])), (j3, .inl (cI, 30, .inl f3)), (r4, .inr (0, [.ref j4, .int (nI L4.length)])), (j4, .inl (cI, 30, .inl f4))] s.heap.size = A at hD ⊢
  have hA : ∀ q : Nat, s.heap.size ≤ q → A q := fun q h => by rw [← hAe]; exact Or.inr h
  have hS : va_S A s.heap s.heap [] := va_S.rf
  have hP : va_P G vwCl [(sh, .inr (1, [.ref r1, .ref r2, .ref r3, .ref r4, .int (nI rc), .int (nI bo), .int lv])), (r1, .inr (0, [.ref j1, .int (nI L1.length)])), (j1, .inl (cI, 30, .inl f1)), (r2, .inr (0, [.ref j2, .int (nI L2.length)])), (j2, .inl (cI, 30, .inl f2)), (r3, .inr (0, [.ref j3, .int (nI L3.length)])), (j3, .inl (cI, 30, .inl f3)), (r4, .inr (0, [.ref j4, .int (nI L4.length)])), (j4, .inl (cI, 30, .inl f4))] s.heap := hP
  have hl := lv_entry ([.ref sh, .ref r3, .ref r4]) (n := 4) (Nat.le_of_ble_eq_true rfl)
  rw [lg_entry_eq]
  generalize (lg_sl ([.ref sh, .ref r3, .ref r4]) ++ List.replicate (4 - (lg_sl ([.ref sh, .ref r3, .ref r4])).length) Slot.unset).toArray = ls at hl ⊢
  have hl : lv_has ls 4 [(0, .ref sh), (1, .ref r3), (2, .ref r4)] := hl
  refine lv_aload_n hx hb dX1_step_0 rfl (lv_at hl 2 rfl) ?_
  have hPc := hP.sub (ws' := [(r4, .inr (0, [.ref j4, .int (nI L4.length)])), (j4, .inl (cI, 30, .inl f4))]) [7, 8] rfl
  have hDc := hD.sub (ws' := [(r4, .inr (0, [.ref j4, .int (nI L4.length)])), (j4, .inl (cI, 30, .inl f4))]) [7, 8] (by decide) rfl
  have hKc := hK.sub (tys' := [(cI, .int)]) [0] rfl
  have hFc := va_free (wc := [(r4, .inr (0, [.ref j4, .int (nI L4.length)])), (j4, .inl (cI, 30, .inl f4))]) hD hS hA [7, 8] rfl
  refine va_calli (va_runV (As := []) (rest := []) ⟨hx, hb, hml, hown, hts⟩ (c_X0_length l G cI r4 j4 f4 L4 hR4 (by omega)  s.heap.size) (cwV 0 hts gX1_step_X0_length rfl rfl rfl (by decide +kernel) ⟨Nat.le_of_ble_eq_true rfl, Nat.le_of_ble_eq_true rfl⟩) (g_preV (As := []) hPc hKc hDc 0 rfl rfl) rfl rfl hl.1 rfl (lv_room (Nat.le_of_ble_eq_true rfl)) dX1_step_1 ⟨(Nat.le_of_ble_eq_true rfl), (Nat.le_of_ble_eq_true rfl)⟩) hS (fun q _ h => hFc q h) hFc (fun r_2 u_3 t H_1 locs ht hvm hw hB hz1 hk1 hS1 => ?_)
  subst hw
  obtain ⟨hP1, hD1⟩ := g_join (wc := [(r4, .inr (0, [.ref j4, .int (nI L4.length)])), (j4, .inl (cI, 30, .inl f4))]) (wr := [(sh, .inr (1, [.ref r1, .ref r2, .ref r3, .ref r4, .int (nI rc), .int (nI bo), .int lv])), (r1, .inr (0, [.ref j1, .int (nI L1.length)])), (j1, .inl (cI, 30, .inl f1)), (r2, .inr (0, [.ref j2, .int (nI L2.length)])), (j2, .inl (cI, 30, .inl f2)), (r3, .inr (0, [.ref j3, .int (nI L3.length)])), (j3, .inl (cI, 30, .inl f3))]) (w1 := [(r4, .inr (0, [.ref j4, .int (nI L4.length)])), (j4, .inl (cI, 30, .inl f4))]) hP hD [7, 8] [0, 1, 2, 3, 4, 5, 6] rfl rfl (by decide) (by decide) ht hk1 hFc hB
  clear hB hk1 hz1 hvm ht hPc hDc hKc hFc
  clear hP hD hS
  have hP : va_P G vwCl [(sh, .inr (1, [.ref r1, .ref r2, .ref r3, .ref r4, .int (nI rc), .int (nI bo), .int lv])), (r1, .inr (0, [.ref j1, .int (nI L1.length)])), (j1, .inl (cI, 30, .inl f1)), (r2, .inr (0, [.ref j2, .int (nI L2.length)])), (j2, .inl (cI, 30, .inl f2)), (r3, .inr (0, [.ref j3, .int (nI L3.length)])), (j3, .inl (cI, 30, .inl f3)), (r4, .inr (0, [.ref j4, .int (nI L4.length)])), (j4, .inl (cI, 30, .inl f4))] H_1 := hP1
  have hD : va_D A [(sh, .inr (1, [.ref r1, .ref r2, .ref r3, .ref r4, .int (nI rc), .int (nI bo), .int lv])), (r1, .inr (0, [.ref j1, .int (nI L1.length)])), (j1, .inl (cI, 30, .inl f1)), (r2, .inr (0, [.ref j2, .int (nI L2.length)])), (j2, .inl (cI, 30, .inl f2)), (r3, .inr (0, [.ref j3, .int (nI L3.length)])), (j3, .inl (cI, 30, .inl f3)), (r4, .inr (0, [.ref j4, .int (nI L4.length)])), (j4, .inl (cI, 30, .inl f4))] := hD1
  have hS := hS1
  clear hP1 hD1 hS1
  refine lv_istore_n (lv' := [(3, .int (nI L4.length)), (0, .ref sh), (1, .ref r3), (2, .ref r4)]) hx hb dX1_step_4 rfl hl (by decide) rfl (fun ls hl => ?_)
  refine lv_iload_n hx hb dX1_step_5 rfl (lv_at hl 0 rfl) ?_
  refine g_if_gt (tgt := 11) hx hb dX1_step_6 (by decide) (by omega) (fun c_4 => ?_) (fun c_4 => False.elim (by omega))
  refine lv_iconst (v := (nI 1)) hx hb dX1_step_11 (by decide +kernel) ?_
  refine lv_aload_n hx hb dX1_step_12 rfl (lv_at hl 2 rfl) ?_
  have hPc := hP.sub (ws' := [(r3, .inr (0, [.ref j3, .int (nI L3.length)])), (j3, .inl (cI, 30, .inl f3))]) [5, 6] rfl
  have hDc := hD.sub (ws' := [(r3, .inr (0, [.ref j3, .int (nI L3.length)])), (j3, .inl (cI, 30, .inl f3))]) [5, 6] (by decide) rfl
  have hKc := hK.sub (tys' := [(cI, .int)]) [0] rfl
  have hFc := va_free (wc := [(r3, .inr (0, [.ref j3, .int (nI L3.length)])), (j3, .inl (cI, 30, .inl f3))]) hD hS hA [5, 6] rfl
  refine va_calli (va_runV (As := []) (rest := [.int (nI 1)]) ⟨hx, hb, hml, hown, hts⟩ (c_X0_length l G cI r3 j3 f3 L3 hR3 (by omega)  H_1.size) (cwV 0 hts gX1_step_X0_length rfl rfl rfl (by decide +kernel) ⟨Nat.le_of_ble_eq_true rfl, Nat.le_of_ble_eq_true rfl⟩) (g_preV (As := []) hPc hKc hDc 0 rfl rfl) rfl rfl hl.1 rfl (lv_room (Nat.le_of_ble_eq_true rfl)) dX1_step_13 ⟨(Nat.le_of_ble_eq_true rfl), (Nat.le_of_ble_eq_true rfl)⟩) hS (fun q _ h => hFc q h) hFc (fun r_6 u_7 t H_5 locs ht hvm hw hB hz1 hk1 hS1 => ?_)
  subst hw
  obtain ⟨hP1, hD1⟩ := g_join (wc := [(r3, .inr (0, [.ref j3, .int (nI L3.length)])), (j3, .inl (cI, 30, .inl f3))]) (wr := [(sh, .inr (1, [.ref r1, .ref r2, .ref r3, .ref r4, .int (nI rc), .int (nI bo), .int lv])), (r1, .inr (0, [.ref j1, .int (nI L1.length)])), (j1, .inl (cI, 30, .inl f1)), (r2, .inr (0, [.ref j2, .int (nI L2.length)])), (j2, .inl (cI, 30, .inl f2)), (r4, .inr (0, [.ref j4, .int (nI L4.length)])), (j4, .inl (cI, 30, .inl f4))]) (w1 := [(r3, .inr (0, [.ref j3, .int (nI L3.length)])), (j3, .inl (cI, 30, .inl f3))]) hP hD [5, 6] [0, 1, 2, 3, 4, 7, 8] rfl rfl (by decide) (by decide) ht hk1 hFc hB
  clear hB hk1 hz1 hvm ht hPc hDc hKc hFc
  clear hP hD hS
  have hP : va_P G vwCl [(sh, .inr (1, [.ref r1, .ref r2, .ref r3, .ref r4, .int (nI rc), .int (nI bo), .int lv])), (r1, .inr (0, [.ref j1, .int (nI L1.length)])), (j1, .inl (cI, 30, .inl f1)), (r2, .inr (0, [.ref j2, .int (nI L2.length)])), (j2, .inl (cI, 30, .inl f2)), (r4, .inr (0, [.ref j4, .int (nI L4.length)])), (j4, .inl (cI, 30, .inl f4)), (r3, .inr (0, [.ref j3, .int (nI L3.length)])), (j3, .inl (cI, 30, .inl f3))] H_5 := hP1
  have hD : va_D A [(sh, .inr (1, [.ref r1, .ref r2, .ref r3, .ref r4, .int (nI rc), .int (nI bo), .int lv])), (r1, .inr (0, [.ref j1, .int (nI L1.length)])), (j1, .inl (cI, 30, .inl f1)), (r2, .inr (0, [.ref j2, .int (nI L2.length)])), (j2, .inl (cI, 30, .inl f2)), (r4, .inr (0, [.ref j4, .int (nI L4.length)])), (j4, .inl (cI, 30, .inl f4)), (r3, .inr (0, [.ref j3, .int (nI L3.length)])), (j3, .inl (cI, 30, .inl f3))] := hD1
  have hS := hS1
  clear hP1 hD1 hS1
  refine lv_iload_n hx hb dX1_step_16 rfl (lv_at hl 0 rfl) ?_
  refine g_idiv hx hb dX1_step_17 (by omega) (by omega) (by omega) ?_
  refine g_mmax hx hb (hml.trans hl.1.symm) hown (hts (.methodLink RX1 77 Lib.Math.max.name) (by decide +kernel)) (hts (.static Lib.Math.max.name) (by decide +kernel)) (hts (.initialized "java/lang/Math") (by decide +kernel)) (hts (.code Lib.Math.max.name Lib.Math.max.code 2 (some .int)) (by decide +kernel)) (Nat.le_of_ble_eq_true rfl) (Nat.le_of_ble_eq_true rfl) (Nat.le_of_ble_eq_true rfl) (Nat.le_of_ble_eq_true rfl) (by decide) (Nat.lt_of_le_of_lt (Nat.div_le_self _ _) (by omega)) dX1_step_18 ?_
  have hP9 := hP.sub (ws' := [(sh, .inr (1, [.ref r1, .ref r2, .ref r3, .ref r4, .int (nI rc), .int (nI bo), .int lv])), (r1, .inr (0, [.ref j1, .int (nI L1.length)])), (j1, .inl (cI, 30, .inl f1)), (r2, .inr (0, [.ref j2, .int (nI L2.length)])), (j2, .inl (cI, 30, .inl f2)), (r3, .inr (0, [.ref j3, .int (nI L3.length)])), (j3, .inl (cI, 30, .inl f3)), (r4, .inr (0, [.ref j4, .int (nI L4.length)])), (j4, .inl (cI, 30, .inl f4))]) [0, 1, 2, 3, 4, 7, 8, 5, 6] rfl
  have hD9 := hD.sub (ws' := [(sh, .inr (1, [.ref r1, .ref r2, .ref r3, .ref r4, .int (nI rc), .int (nI bo), .int lv])), (r1, .inr (0, [.ref j1, .int (nI L1.length)])), (j1, .inl (cI, 30, .inl f1)), (r2, .inr (0, [.ref j2, .int (nI L2.length)])), (j2, .inl (cI, 30, .inl f2)), (r3, .inr (0, [.ref j3, .int (nI L3.length)])), (j3, .inl (cI, 30, .inl f3)), (r4, .inr (0, [.ref j4, .int (nI L4.length)])), (j4, .inl (cI, 30, .inl f4))]) [0, 1, 2, 3, 4, 7, 8, 5, 6] (by decide) rfl
  exact W.iret (v := (nI (max 1 (L3.length / L4.length)))) hx hb hr (fun t ht hW => ⟨⟨(nI (max 1 (L3.length / L4.length))), (), rfl, rfl, g_at hP9 hK hD9 ht hW⟩, hS.F ht⟩) hS.2.2 dX1_step_21

set_option maxRecDepth 20000 in
theorem iX1_makeRoom_X1 : ∀ w ∈ wsX10, w ∈ wsX1_makeRoom := by decide +kernel
set_option maxHeartbeats 4000000 in
set_option maxRecDepth 100000 in
theorem c_X1_makeRoom (l : Launch) (G : va_G) (cI : ClassId) (sh r1 r2 r3 r4 j1 j2 j3 j4 : Nat) (f1 f2 f3 f4 : Nat → Int32) (L1 L2 L3 L4 : List Int32) (rc bo : Nat) (lv : Int32) (hR1 : Rw f1 L1) (hR2 : Rw f2 L2) (hR3 : Rw f3 L3) (hR4 : Rw f4 L4) (hn : Num rc bo (L1, L2, L3, L4)) (hj : Jrs (L1, L2, L3, L4)) (ff : Bool) (sz : Nat) : Met l yX1_makeRoom wsX1_makeRoom ({ frames := 2, cells := 0, slots := 0, locals := 39 }) (va_Pc [.ref sh, .int (nI ff.toNat)] (gpre G [(cI, .int)] [(sh, .inr (1, [.ref r1, .ref r2, .ref r3, .ref r4, .int (nI rc), .int (nI bo), .int lv])), (r1, .inr (0, [.ref j1, .int (nI L1.length)])), (j1, .inl (cI, 30, .inl f1)), (r2, .inr (0, [.ref j2, .int (nI L2.length)])), (j2, .inl (cI, 30, .inl f2)), (r3, .inr (0, [.ref j3, .int (nI L3.length)])), (j3, .inl (cI, 30, .inl f3)), (r4, .inr (0, [.ref j4, .int (nI L4.length)])), (j4, .inl (cI, 30, .inl f4))] sz)) (va_Qv (fun (u : Q4 × Int32) => u = (sRoom rc bo ff (L1, L2, L3, L4), sRoomX rc bo ff (L1, L2, L3, L4) lv)) (fun (u : Q4 × Int32) t => ∃ f1' f2' f3' f4' : Nat → Int32, Rw f1' u.1.1 ∧ Rw f2' u.1.2.1 ∧ Rw f3' u.1.2.2.1 ∧ Rw f4' u.1.2.2.2 ∧ gat G [(cI, .int)] (va_A [(sh, .inr (1, [.ref r1, .ref r2, .ref r3, .ref r4, .int (nI rc), .int (nI bo), .int lv])), (r1, .inr (0, [.ref j1, .int (nI L1.length)])), (j1, .inl (cI, 30, .inl f1)), (r2, .inr (0, [.ref j2, .int (nI L2.length)])), (j2, .inl (cI, 30, .inl f2)), (r3, .inr (0, [.ref j3, .int (nI L3.length)])), (j3, .inl (cI, 30, .inl f3)), (r4, .inr (0, [.ref j4, .int (nI L4.length)])), (j4, .inl (cI, 30, .inl f4))] sz) [(sh, .inr (1, [.ref r1, .ref r2, .ref r3, .ref r4, .int (nI rc), .int (nI bo), .int u.2])), (r1, .inr (0, [.ref j1, .int (nI u.1.1.length)])), (j1, .inl (cI, 30, .inl f1')), (r2, .inr (0, [.ref j2, .int (nI u.1.2.1.length)])), (j2, .inl (cI, 30, .inl f2')), (r3, .inr (0, [.ref j3, .int (nI u.1.2.2.1.length)])), (j3, .inl (cI, 30, .inl f3')), (r4, .inr (0, [.ref j4, .int (nI u.1.2.2.2.length)])), (j4, .inl (cI, 30, .inl f4'))] t) (va_A [(sh, .inr (1, [.ref r1, .ref r2, .ref r3, .ref r4, .int (nI rc), .int (nI bo), .int lv])), (r1, .inr (0, [.ref j1, .int (nI L1.length)])), (j1, .inl (cI, 30, .inl f1)), (r2, .inr (0, [.ref j2, .int (nI L2.length)])), (j2, .inl (cI, 30, .inl f2)), (r3, .inr (0, [.ref j3, .int (nI L3.length)])), (j3, .inl (cI, 30, .inl f3)), (r4, .inr (0, [.ref j4, .int (nI L4.length)])), (j4, .inl (cI, 30, .inl f4))] sz)) 0 0 (va_A [(sh, .inr (1, [.ref r1, .ref r2, .ref r3, .ref r4, .int (nI rc), .int (nI bo), .int lv])), (r1, .inr (0, [.ref j1, .int (nI L1.length)])), (j1, .inl (cI, 30, .inl f1)), (r2, .inr (0, [.ref j2, .int (nI L2.length)])), (j2, .inl (cI, 30, .inl f2)), (r3, .inr (0, [.ref j3, .int (nI L3.length)])), (j3, .inl (cI, 30, .inl f3)), (r4, .inr (0, [.ref j4, .int (nI L4.length)])), (j4, .inl (cI, 30, .inl f4))] sz) := by
  refine Met.ofW (cc := cX1_makeRoom) (maxL := 7) (ret := none) (by decide) rfl ?_
  intro p e s m args below meth c s₁ B hml hv
  obtain ⟨rfl, hsz, hP, hK, hD0⟩ := hv
  have hx := B.exec
  have hb := B.bytes
  have hr := B.returns
  have hts := atoms_spec (ws := wsX1_makeRoom) B.pre
  have hown : s.vm.findClass RX1 = some m.cls := findClass_of_methodNamed B.named
  have hlocks := B.notSynchronized
  subst hsz
  have hD := hD0.self (sz := s.heap.size)
  clear hD0
  generalize hAe : va_A [(sh, .inr (1, [.ref r1, .ref r2, .ref r3, .ref r4, .int (nI rc), .int (nI bo), .int lv])), (r1, .inr (0, [.ref j1, .int (nI L1.length)])), (j1, .inl (cI, 30, .inl f1)), (r2, .inr (0, [.ref j2, .int (nI L2.length)])), (j2, .inl (cI, 30, .inl f2)), (r3, .inr (0, [.ref j3, .int (nI L3.length)])), (j3, .inl (cI, 30, .inl f3)), (r4, .inr (0, [.ref j4, .int (nI L4.length)])), (j4, .inl (cI, 30, .inl f4))] s.heap.size = A at hD ⊢
  have hA : ∀ q : Nat, s.heap.size ≤ q → A q := fun q h => by rw [← hAe]; exact Or.inr h
  have hS : va_S A s.heap s.heap [] := va_S.rf
  have hP : va_P G vwCl [(sh, .inr (1, [.ref r1, .ref r2, .ref r3, .ref r4, .int (nI rc), .int (nI bo), .int lv])), (r1, .inr (0, [.ref j1, .int (nI L1.length)])), (j1, .inl (cI, 30, .inl f1)), (r2, .inr (0, [.ref j2, .int (nI L2.length)])), (j2, .inl (cI, 30, .inl f2)), (r3, .inr (0, [.ref j3, .int (nI L3.length)])), (j3, .inl (cI, 30, .inl f3)), (r4, .inr (0, [.ref j4, .int (nI L4.length)])), (j4, .inl (cI, 30, .inl f4))] s.heap := hP
  have hl := lv_entry ([.ref sh, .int (nI ff.toNat)]) (n := 7) (Nat.le_of_ble_eq_true rfl)
  rw [lg_entry_eq]
  generalize (lg_sl ([.ref sh, .int (nI ff.toNat)]) ++ List.replicate (7 - (lg_sl ([.ref sh, .int (nI ff.toNat)])).length) Slot.unset).toArray = ls at hl ⊢
  have hl : lv_has ls 7 [(0, .ref sh), (1, .int (nI ff.toNat))] := hl
  obtain ⟨hn1, hn2, hn3, hn4, hn5, hn6⟩ : 1 ≤ rc ∧ rc ≤ 12 ∧ bo ≤ rc ∧ L1.length + L2.length ≤ rc ∧ L1.length + L3.length ≤ rc ∧ L1.length + L2.length + L3.length + L4.length ≤ 2 * rc := hn
  obtain ⟨hj1, hj2, hj3, hj4⟩ : allOk L1 ∧ allOk L2 ∧ allOk L3 ∧ allOk L4 := hj
  have hff0 : ff.toNat < 2 := by cases ff <;> decide
  refine lv_aload_n hx hb dX1_makeRoom_0 rfl (lv_at hl 0 rfl) ?_
  refine va_get (D := G) (ci := 1) (v := .ref r1) (C := RX1) (T := TX1) (N := 7) hx hb hts iX1_makeRoom_X1 hown hK hP 0 rfl rfl 0 (by decide) (hts (.fieldLink RX1 14 "GhostPantry$Shelves" "recent" "LGhostPantry$Row;") (by decide +kernel)) (fun _ h9 => h9) rfl dX1_makeRoom_1 ?_
  have hPc := hP.sub (ws' := [(r1, .inr (0, [.ref j1, .int (nI L1.length)])), (j1, .inl (cI, 30, .inl f1))]) [1, 2] rfl
  have hDc := hD.sub (ws' := [(r1, .inr (0, [.ref j1, .int (nI L1.length)])), (j1, .inl (cI, 30, .inl f1))]) [1, 2] (by decide) rfl
  have hKc := hK.sub (tys' := [(cI, .int)]) [0] rfl
  have hFc := va_free (wc := [(r1, .inr (0, [.ref j1, .int (nI L1.length)])), (j1, .inl (cI, 30, .inl f1))]) hD hS hA [1, 2] rfl
  refine va_calli (va_runV (As := []) (rest := []) ⟨hx, hb, hml, hown, hts⟩ (c_X0_length l G cI r1 j1 f1 L1 hR1 (by omega)  s.heap.size) (cwV 0 hts gX1_makeRoom_X0_length rfl rfl rfl (by decide +kernel) ⟨Nat.le_of_ble_eq_true rfl, Nat.le_of_ble_eq_true rfl⟩) (g_preV (As := []) hPc hKc hDc 0 rfl rfl) rfl rfl hl.1 rfl (lv_room (Nat.le_of_ble_eq_true rfl)) dX1_makeRoom_4 ⟨(Nat.le_of_ble_eq_true rfl), (Nat.le_of_ble_eq_true rfl)⟩) hS (fun q _ h => hFc q h) hFc (fun r_2 u_3 t H_1 locs ht hvm hw hB hz1 hk1 hS1 => ?_)
  subst hw
  obtain ⟨hP1, hD1⟩ := g_join (wc := [(r1, .inr (0, [.ref j1, .int (nI L1.length)])), (j1, .inl (cI, 30, .inl f1))]) (wr := [(sh, .inr (1, [.ref r1, .ref r2, .ref r3, .ref r4, .int (nI rc), .int (nI bo), .int lv])), (r2, .inr (0, [.ref j2, .int (nI L2.length)])), (j2, .inl (cI, 30, .inl f2)), (r3, .inr (0, [.ref j3, .int (nI L3.length)])), (j3, .inl (cI, 30, .inl f3)), (r4, .inr (0, [.ref j4, .int (nI L4.length)])), (j4, .inl (cI, 30, .inl f4))]) (w1 := [(r1, .inr (0, [.ref j1, .int (nI L1.length)])), (j1, .inl (cI, 30, .inl f1))]) hP hD [1, 2] [0, 3, 4, 5, 6, 7, 8] rfl rfl (by decide) (by decide) ht hk1 hFc hB
  clear hB hk1 hz1 hvm ht hPc hDc hKc hFc
  clear hP hD hS
  have hP : va_P G vwCl [(sh, .inr (1, [.ref r1, .ref r2, .ref r3, .ref r4, .int (nI rc), .int (nI bo), .int lv])), (r2, .inr (0, [.ref j2, .int (nI L2.length)])), (j2, .inl (cI, 30, .inl f2)), (r3, .inr (0, [.ref j3, .int (nI L3.length)])), (j3, .inl (cI, 30, .inl f3)), (r4, .inr (0, [.ref j4, .int (nI L4.length)])), (j4, .inl (cI, 30, .inl f4)), (r1, .inr (0, [.ref j1, .int (nI L1.length)])), (j1, .inl (cI, 30, .inl f1))] H_1 := hP1
  have hD : va_D A [(sh, .inr (1, [.ref r1, .ref r2, .ref r3, .ref r4, .int (nI rc), .int (nI bo), .int lv])), (r2, .inr (0, [.ref j2, .int (nI L2.length)])), (j2, .inl (cI, 30, .inl f2)), (r3, .inr (0, [.ref j3, .int (nI L3.length)])), (j3, .inl (cI, 30, .inl f3)), (r4, .inr (0, [.ref j4, .int (nI L4.length)])), (j4, .inl (cI, 30, .inl f4)), (r1, .inr (0, [.ref j1, .int (nI L1.length)])), (j1, .inl (cI, 30, .inl f1))] := hD1
  have hS := hS1
  clear hP1 hD1 hS1
  refine lv_istore_n (lv' := [(2, .int (nI L1.length)), (0, .ref sh), (1, .int (nI ff.toNat))]) hx hb dX1_makeRoom_7 rfl hl (by decide) rfl (fun ls hl => ?_)
  refine lv_iload_n hx hb dX1_makeRoom_8 rfl (lv_at hl 0 rfl) ?_
  refine lv_aload_n hx hb dX1_makeRoom_9 rfl (lv_at hl 1 rfl) ?_
  refine va_get (D := G) (ci := 1) (v := .ref r2) (C := RX1) (T := TX1) (N := 7) hx hb hts iX1_makeRoom_X1 hown hK hP 0 rfl rfl 1 (by decide) (hts (.fieldLink RX1 20 "GhostPantry$Shelves" "frequent" "LGhostPantry$Row;") (by decide +kernel)) (fun _ h9 => h9) rfl dX1_makeRoom_10 ?_
  have hPc := hP.sub (ws' := [(r2, .inr (0, [.ref j2, .int (nI L2.length)])), (j2, .inl (cI, 30, .inl f2))]) [1, 2] rfl
  have hDc := hD.sub (ws' := [(r2, .inr (0, [.ref j2, .int (nI L2.length)])), (j2, .inl (cI, 30, .inl f2))]) [1, 2] (by decide) rfl
  have hKc := hK.sub (tys' := [(cI, .int)]) [0] rfl
  have hFc := va_free (wc := [(r2, .inr (0, [.ref j2, .int (nI L2.length)])), (j2, .inl (cI, 30, .inl f2))]) hD hS hA [1, 2] rfl
  refine va_calli (va_runV (As := []) (rest := [.int (nI L1.length)]) ⟨hx, hb, hml, hown, hts⟩ (c_X0_length l G cI r2 j2 f2 L2 hR2 (by omega)  H_1.size) (cwV 0 hts gX1_makeRoom_X0_length rfl rfl rfl (by decide +kernel) ⟨Nat.le_of_ble_eq_true rfl, Nat.le_of_ble_eq_true rfl⟩) (g_preV (As := []) hPc hKc hDc 0 rfl rfl) rfl rfl hl.1 rfl (lv_room (Nat.le_of_ble_eq_true rfl)) dX1_makeRoom_13 ⟨(Nat.le_of_ble_eq_true rfl), (Nat.le_of_ble_eq_true rfl)⟩) hS (fun q _ h => hFc q h) hFc (fun r_5 u_6 t H_4 locs ht hvm hw hB hz1 hk1 hS1 => ?_)
  subst hw
  obtain ⟨hP1, hD1⟩ := g_join (wc := [(r2, .inr (0, [.ref j2, .int (nI L2.length)])), (j2, .inl (cI, 30, .inl f2))]) (wr := [(sh, .inr (1, [.ref r1, .ref r2, .ref r3, .ref r4, .int (nI rc), .int (nI bo), .int lv])), (r3, .inr (0, [.ref j3, .int (nI L3.length)])), (j3, .inl (cI, 30, .inl f3)), (r4, .inr (0, [.ref j4, .int (nI L4.length)])), (j4, .inl (cI, 30, .inl f4)), (r1, .inr (0, [.ref j1, .int (nI L1.length)])), (j1, .inl (cI, 30, .inl f1))]) (w1 := [(r2, .inr (0, [.ref j2, .int (nI L2.length)])), (j2, .inl (cI, 30, .inl f2))]) hP hD [1, 2] [0, 3, 4, 5, 6, 7, 8] rfl rfl (by decide) (by decide) ht hk1 hFc hB
  clear hB hk1 hz1 hvm ht hPc hDc hKc hFc
  clear hP hD hS
  have hP : va_P G vwCl [(sh, .inr (1, [.ref r1, .ref r2, .ref r3, .ref r4, .int (nI rc), .int (nI bo), .int lv])), (r3, .inr (0, [.ref j3, .int (nI L3.length)])), (j3, .inl (cI, 30, .inl f3)), (r4, .inr (0, [.ref j4, .int (nI L4.length)])), (j4, .inl (cI, 30, .inl f4)), (r1, .inr (0, [.ref j1, .int (nI L1.length)])), (j1, .inl (cI, 30, .inl f1)), (r2, .inr (0, [.ref j2, .int (nI L2.length)])), (j2, .inl (cI, 30, .inl f2))] H_4 := hP1
  have hD : va_D A [(sh, .inr (1, [.ref r1, .ref r2, .ref r3, .ref r4, .int (nI rc), .int (nI bo), .int lv])), (r3, .inr (0, [.ref j3, .int (nI L3.length)])), (j3, .inl (cI, 30, .inl f3)), (r4, .inr (0, [.ref j4, .int (nI L4.length)])), (j4, .inl (cI, 30, .inl f4)), (r1, .inr (0, [.ref j1, .int (nI L1.length)])), (j1, .inl (cI, 30, .inl f1)), (r2, .inr (0, [.ref j2, .int (nI L2.length)])), (j2, .inl (cI, 30, .inl f2))] := hD1
  have hS := hS1
  clear hP1 hD1 hS1
  refine g_iadd hx hb dX1_makeRoom_16 ?_
  refine lv_aload_n hx hb dX1_makeRoom_17 rfl (lv_at hl 1 rfl) ?_
  refine va_get (D := G) (ci := 1) (v := .int (nI rc)) (C := RX1) (T := TX1) (N := 7) hx hb hts iX1_makeRoom_X1 hown hK hP 0 rfl rfl 4 (by decide) (hts (.fieldLink RX1 29 "GhostPantry$Shelves" "room" "I") (by decide +kernel)) (fun _ h9 => h9) rfl dX1_makeRoom_18 ?_
  refine g_icmp_eq (tgt := 25) hx hb dX1_makeRoom_21 (by decide) (by omega) (by omega) (fun c_7 => ?_) (fun c_7 => ?_)
  · refine lv_iload_n hx hb dX1_makeRoom_25 rfl (lv_at hl 0 rfl) ?_
    refine lv_aload_n hx hb dX1_makeRoom_26 rfl (lv_at hl 1 rfl) ?_
    refine va_get (D := G) (ci := 1) (v := .int (nI bo)) (C := RX1) (T := TX1) (N := 7) hx hb hts iX1_makeRoom_X1 hown hK hP 0 rfl rfl 5 (by decide) (hts (.fieldLink RX1 33 "GhostPantry$Shelves" "border" "I") (by decide +kernel)) (fun _ h9 => h9) rfl dX1_makeRoom_27 ?_
    refine g_icmp_gt (tgt := 45) hx hb dX1_makeRoom_30 (by decide) (by omega) (by omega) (fun c_8 => ?_) (fun c_8 => ?_)
    · refine lv_iconst (v := (nI 1)) hx hb dX1_makeRoom_45 (by decide +kernel) ?_
      refine lv_goto (tgt := 50) hx hb dX1_makeRoom_46 (by decide) ?_
      refine lv_istore_n (lv' := [(3, .int (nI 1)), (2, .int (nI L1.length)), (0, .ref sh), (1, .int (nI ff.toNat))]) hx hb dX1_makeRoom_50 rfl hl (by decide) rfl (fun ls hl => ?_)
      refine lv_iload_n hx hb dX1_makeRoom_51 rfl (lv_at hl 1 rfl) ?_
      refine g_if_le (tgt := 59) hx hb dX1_makeRoom_52 (by decide) (by omega) (fun c_9 => False.elim (by omega)) (fun c_9 => ?_)
      refine lv_iload_n hx hb dX1_makeRoom_55 rfl (lv_at hl 0 rfl) ?_
      refine g_if_ne (tgt := 69) hx hb dX1_makeRoom_56 (by decide) (by decide) (fun c_10 => ?_) (fun c_10 => False.elim (by omega))
      refine lv_iconst (v := (nI 1)) hx hb dX1_makeRoom_69 (by decide +kernel) ?_
      refine lv_goto (tgt := 74) hx hb dX1_makeRoom_70 (by decide) ?_
      refine lv_istore (lv' := [(4, .int (nI 1)), (3, .int (nI 1)), (2, .int (nI L1.length)), (0, .ref sh), (1, .int (nI ff.toNat))]) hx hb dX1_makeRoom_74 hl (by decide) rfl (fun ls hl => ?_)
      refine lv_iload hx hb dX1_makeRoom_76 (lv_at hl 0 rfl) ?_
      refine g_if_eq (tgt := 88) hx hb dX1_makeRoom_78 (by decide) (by decide) (fun c_11 => False.elim (by omega)) (fun c_11 => ?_)
      refine lv_aload_n hx hb dX1_makeRoom_81 rfl (lv_at hl 3 rfl) ?_
      refine va_get (D := G) (ci := 1) (v := .ref r1) (C := RX1) (T := TX1) (N := 7) hx hb hts iX1_makeRoom_X1 hown hK hP 0 rfl rfl 0 (by decide) (hts (.fieldLink RX1 14 "GhostPantry$Shelves" "recent" "LGhostPantry$Row;") (by decide +kernel)) (fun _ h9 => h9) rfl dX1_makeRoom_82 ?_
      refine lv_goto (tgt := 92) hx hb dX1_makeRoom_85 (by decide) ?_
      refine lv_astore (lv' := [(5, .ref r1), (4, .int (nI 1)), (3, .int (nI 1)), (2, .int (nI L1.length)), (0, .ref sh), (1, .int (nI ff.toNat))]) hx hb dX1_makeRoom_92 hl (by decide) rfl (fun ls hl => ?_)
      refine lv_iload hx hb dX1_makeRoom_94 (lv_at hl 1 rfl) ?_
      refine g_if_eq (tgt := 106) hx hb dX1_makeRoom_96 (by decide) (by decide) (fun c_12 => False.elim (by omega)) (fun c_12 => ?_)
      refine lv_aload_n hx hb dX1_makeRoom_99 rfl (lv_at hl 4 rfl) ?_
      refine va_get (D := G) (ci := 1) (v := .ref r3) (C := RX1) (T := TX1) (N := 7) hx hb hts iX1_makeRoom_X1 hown hK hP 0 rfl rfl 2 (by decide) (hts (.fieldLink RX1 23 "GhostPantry$Shelves" "recentGhosts" "LGhostPantry$Row;") (by decide +kernel)) (fun _ h9 => h9) rfl dX1_makeRoom_100 ?_
      refine lv_goto (tgt := 110) hx hb dX1_makeRoom_103 (by decide) ?_
      refine lv_astore (lv' := [(6, .ref r3), (5, .ref r1), (4, .int (nI 1)), (3, .int (nI 1)), (2, .int (nI L1.length)), (0, .ref sh), (1, .int (nI ff.toNat))]) hx hb dX1_makeRoom_110 hl (by decide) rfl (fun ls hl => ?_)
      refine lv_aload_n hx hb dX1_makeRoom_112 rfl (lv_at hl 5 rfl) ?_
      refine lv_aload hx hb dX1_makeRoom_113 (lv_at hl 1 rfl) ?_
      have hPc := hP.sub (ws' := [(r1, .inr (0, [.ref j1, .int (nI L1.length)])), (j1, .inl (cI, 30, .inl f1))]) [5, 6] rfl
      have hDc := hD.sub (ws' := [(r1, .inr (0, [.ref j1, .int (nI L1.length)])), (j1, .inl (cI, 30, .inl f1))]) [5, 6] (by decide) rfl
      have hKc := hK.sub (tys' := [(cI, .int)]) [0] rfl
      have hFc := va_free (wc := [(r1, .inr (0, [.ref j1, .int (nI L1.length)])), (j1, .inl (cI, 30, .inl f1))]) hD hS hA [5, 6] rfl
      refine va_calli (va_runV (As := []) (rest := [.ref sh]) ⟨hx, hb, hml, hown, hts⟩ (c_X0_takeLast l G cI r1 j1 f1 L1 hR1 (by omega) (by omega) H_4.size) (cwV 0 hts gX1_makeRoom_X0_takeLast rfl rfl rfl (by decide +kernel) ⟨Nat.le_of_ble_eq_true rfl, Nat.le_of_ble_eq_true rfl⟩) (g_preV (As := []) hPc hKc hDc 0 rfl rfl) rfl rfl hl.1 rfl (lv_room (Nat.le_of_ble_eq_true rfl)) dX1_makeRoom_115 ⟨(Nat.le_of_ble_eq_true rfl), (Nat.le_of_ble_eq_true rfl)⟩) hS (fun q _ h => hFc q h) hFc (fun r_16 u_17 t H_15 locs ht hvm hw hB hz1 hk1 hS1 => ?_)
      subst hw
      obtain ⟨f_13, hf_14, hB⟩ := hB
      obtain ⟨hP1, hD1⟩ := g_join (wc := [(r1, .inr (0, [.ref j1, .int (nI L1.length)])), (j1, .inl (cI, 30, .inl f1))]) (wr := [(sh, .inr (1, [.ref r1, .ref r2, .ref r3, .ref r4, .int (nI rc), .int (nI bo), .int lv])), (r3, .inr (0, [.ref j3, .int (nI L3.length)])), (j3, .inl (cI, 30, .inl f3)), (r4, .inr (0, [.ref j4, .int (nI L4.length)])), (j4, .inl (cI, 30, .inl f4)), (r2, .inr (0, [.ref j2, .int (nI L2.length)])), (j2, .inl (cI, 30, .inl f2))]) (w1 := [(r1, .inr (0, [.ref j1, .int (nI L1.dropLast.length)])), (j1, .inl (cI, 30, .inl f_13))]) hP hD [5, 6] [0, 1, 2, 3, 4, 7, 8] rfl rfl (by decide) (by decide) ht hk1 hFc hB
      clear hB hk1 hz1 hvm ht hPc hDc hKc hFc
      clear hP hD hS
      have hP : va_P G vwCl [(sh, .inr (1, [.ref r1, .ref r2, .ref r3, .ref r4, .int (nI rc), .int (nI bo), .int lv])), (r3, .inr (0, [.ref j3, .int (nI L3.length)])), (j3, .inl (cI, 30, .inl f3)), (r4, .inr (0, [.ref j4, .int (nI L4.length)])), (j4, .inl (cI, 30, .inl f4)), (r2, .inr (0, [.ref j2, .int (nI L2.length)])), (j2, .inl (cI, 30, .inl f2)), (r1, .inr (0, [.ref j1, .int (nI L1.dropLast.length)])), (j1, .inl (cI, 30, .inl f_13))] H_15 := hP1
      have hD : va_D A [(sh, .inr (1, [.ref r1, .ref r2, .ref r3, .ref r4, .int (nI rc), .int (nI bo), .int lv])), (r3, .inr (0, [.ref j3, .int (nI L3.length)])), (j3, .inl (cI, 30, .inl f3)), (r4, .inr (0, [.ref j4, .int (nI L4.length)])), (j4, .inl (cI, 30, .inl f4)), (r2, .inr (0, [.ref j2, .int (nI L2.length)])), (j2, .inl (cI, 30, .inl f2)), (r1, .inr (0, [.ref j1, .int (nI L1.dropLast.length)])), (j1, .inl (cI, 30, .inl f_13))] := hD1
      have hS := hS1
      clear hP1 hD1 hS1
      refine va_put (D := G) (ci := 1) (v := .int (lst L1)) (ty := .int) (C := RX1) (T := TX1) (N := 7) hx hb hts iX1_makeRoom_X1 tyX1 tyX1_ok nmX1 hown hK hP hD hS 0 rfl rfl 6 (by decide) (hts (.fieldLink RX1 36 "GhostPantry$Shelves" "leaver" "I") (by decide +kernel)) (fun _ h9 => h9) rfl (by decide +kernel) rfl rfl (Nat.le_of_ble_eq_true rfl) dX1_makeRoom_118 (fun H_18 locs hP1 hD1 hS1 => ?_)
      clear hP hD hS
      have hP : va_P G vwCl [(sh, .inr (1, [.ref r1, .ref r2, .ref r3, .ref r4, .int (nI rc), .int (nI bo), .int (lst L1)])), (r3, .inr (0, [.ref j3, .int (nI L3.length)])), (j3, .inl (cI, 30, .inl f3)), (r4, .inr (0, [.ref j4, .int (nI L4.length)])), (j4, .inl (cI, 30, .inl f4)), (r2, .inr (0, [.ref j2, .int (nI L2.length)])), (j2, .inl (cI, 30, .inl f2)), (r1, .inr (0, [.ref j1, .int (nI L1.dropLast.length)])), (j1, .inl (cI, 30, .inl f_13))] H_18 := hP1
      have hD : va_D A [(sh, .inr (1, [.ref r1, .ref r2, .ref r3, .ref r4, .int (nI rc), .int (nI bo), .int (lst L1)])), (r3, .inr (0, [.ref j3, .int (nI L3.length)])), (j3, .inl (cI, 30, .inl f3)), (r4, .inr (0, [.ref j4, .int (nI L4.length)])), (j4, .inl (cI, 30, .inl f4)), (r2, .inr (0, [.ref j2, .int (nI L2.length)])), (j2, .inl (cI, 30, .inl f2)), (r1, .inr (0, [.ref j1, .int (nI L1.dropLast.length)])), (j1, .inl (cI, 30, .inl f_13))] := hD1
      have hS := hS1
      clear hP1 hD1 hS1
      refine lv_aload_n hx hb dX1_makeRoom_121 rfl (lv_at hl 5 rfl) ?_
      refine va_get (D := G) (ci := 1) (v := .int (lst L1)) (C := RX1) (T := TX1) (N := 7) hx hb hts iX1_makeRoom_X1 hown hK hP 0 rfl rfl 6 (by decide) (hts (.fieldLink RX1 36 "GhostPantry$Shelves" "leaver" "I") (by decide +kernel)) (fun _ h9 => h9) rfl dX1_makeRoom_122 ?_
      refine lv_iconst (v := (-1)) hx hb dX1_makeRoom_125 (by decide +kernel) ?_
      refine lv_icmp_eq (tgt := 138) hx hb dX1_makeRoom_126 (by decide) (fun c_19 => False.elim (by exact ok_ne (ok_lst hj1 (by omega)) c_19)) (fun c_19 => ?_)
      refine lv_aload hx hb dX1_makeRoom_129 (lv_at hl 0 rfl) ?_
      refine lv_aload_n hx hb dX1_makeRoom_131 rfl (lv_at hl 5 rfl) ?_
      refine va_get (D := G) (ci := 1) (v := .int (lst L1)) (C := RX1) (T := TX1) (N := 7) hx hb hts iX1_makeRoom_X1 hown hK hP 0 rfl rfl 6 (by decide) (hts (.fieldLink RX1 36 "GhostPantry$Shelves" "leaver" "I") (by decide +kernel)) (fun _ h9 => h9) rfl dX1_makeRoom_132 ?_
      have hPc := hP.sub (ws' := [(r3, .inr (0, [.ref j3, .int (nI L3.length)])), (j3, .inl (cI, 30, .inl f3))]) [1, 2] rfl
      have hDc := hD.sub (ws' := [(r3, .inr (0, [.ref j3, .int (nI L3.length)])), (j3, .inl (cI, 30, .inl f3))]) [1, 2] (by decide) rfl
      have hKc := hK.sub (tys' := [(cI, .int)]) [0] rfl
      have hFc := va_free (wc := [(r3, .inr (0, [.ref j3, .int (nI L3.length)])), (j3, .inl (cI, 30, .inl f3))]) hD hS hA [1, 2] rfl
      refine va_callv (va_runV (As := [.int (lst L1)]) (rest := []) ⟨hx, hb, hml, hown, hts⟩ (c_X0_putFirst l G cI r3 j3 f3 L3 hR3 (by omega) (lst L1) (by omega) H_18.size) (cwV 1 hts gX1_makeRoom_X0_putFirst rfl rfl rfl (by decide +kernel) ⟨Nat.le_of_ble_eq_true rfl, Nat.le_of_ble_eq_true rfl⟩) (g_preV (As := [.int (lst L1)]) hPc hKc hDc 0 rfl rfl) rfl rfl hl.1 rfl (lv_room (Nat.le_of_ble_eq_true rfl)) dX1_makeRoom_135 ⟨(Nat.le_of_ble_eq_true rfl), (Nat.le_of_ble_eq_true rfl)⟩) hS (fun q _ h => hFc q h) hFc (fun u_24 t H_22 locs ht hvm hw hB hz1 hk1 hS1 => ?_)
      obtain ⟨f_20, hf_21, hB⟩ := hB
      obtain ⟨hP1, hD1⟩ := g_join (wc := [(r3, .inr (0, [.ref j3, .int (nI L3.length)])), (j3, .inl (cI, 30, .inl f3))]) (wr := [(sh, .inr (1, [.ref r1, .ref r2, .ref r3, .ref r4, .int (nI rc), .int (nI bo), .int (lst L1)])), (r4, .inr (0, [.ref j4, .int (nI L4.length)])), (j4, .inl (cI, 30, .inl f4)), (r2, .inr (0, [.ref j2, .int (nI L2.length)])), (j2, .inl (cI, 30, .inl f2)), (r1, .inr (0, [.ref j1, .int (nI L1.dropLast.length)])), (j1, .inl (cI, 30, .inl f_13))]) (w1 := [(r3, .inr (0, [.ref j3, .int (nI (((lst L1) :: L3).length))])), (j3, .inl (cI, 30, .inl f_20))]) hP hD [1, 2] [0, 3, 4, 5, 6, 7, 8] rfl rfl (by decide) (by decide) ht hk1 hFc hB
      clear hB hk1 hz1 hvm ht hPc hDc hKc hFc
      clear hP hD hS
      have hP : va_P G vwCl [(sh, .inr (1, [.ref r1, .ref r2, .ref r3, .ref r4, .int (nI rc), .int (nI bo), .int (lst L1)])), (r4, .inr (0, [.ref j4, .int (nI L4.length)])), (j4, .inl (cI, 30, .inl f4)), (r2, .inr (0, [.ref j2, .int (nI L2.length)])), (j2, .inl (cI, 30, .inl f2)), (r1, .inr (0, [.ref j1, .int (nI L1.dropLast.length)])), (j1, .inl (cI, 30, .inl f_13)), (r3, .inr (0, [.ref j3, .int (nI (((lst L1) :: L3).length))])), (j3, .inl (cI, 30, .inl f_20))] H_22 := hP1
      have hD : va_D A [(sh, .inr (1, [.ref r1, .ref r2, .ref r3, .ref r4, .int (nI rc), .int (nI bo), .int (lst L1)])), (r4, .inr (0, [.ref j4, .int (nI L4.length)])), (j4, .inl (cI, 30, .inl f4)), (r2, .inr (0, [.ref j2, .int (nI L2.length)])), (j2, .inl (cI, 30, .inl f2)), (r1, .inr (0, [.ref j1, .int (nI L1.dropLast.length)])), (j1, .inl (cI, 30, .inl f_13)), (r3, .inr (0, [.ref j3, .int (nI (((lst L1) :: L3).length))])), (j3, .inl (cI, 30, .inl f_20))] := hD1
      have hS := hS1
      clear hP1 hD1 hS1
      have hP9 := hP.sub (ws' := [(sh, .inr (1, [.ref r1, .ref r2, .ref r3, .ref r4, .int (nI rc), .int (nI bo), .int (lst L1)])), (r1, .inr (0, [.ref j1, .int (nI L1.dropLast.length)])), (j1, .inl (cI, 30, .inl f_13)), (r2, .inr (0, [.ref j2, .int (nI L2.length)])), (j2, .inl (cI, 30, .inl f2)), (r3, .inr (0, [.ref j3, .int (nI (((lst L1) :: L3).length))])), (j3, .inl (cI, 30, .inl f_20)), (r4, .inr (0, [.ref j4, .int (nI L4.length)])), (j4, .inl (cI, 30, .inl f4))]) [0, 5, 6, 3, 4, 7, 8, 1, 2] rfl
      have hD9 := hD.sub (ws' := [(sh, .inr (1, [.ref r1, .ref r2, .ref r3, .ref r4, .int (nI rc), .int (nI bo), .int (lst L1)])), (r1, .inr (0, [.ref j1, .int (nI L1.dropLast.length)])), (j1, .inl (cI, 30, .inl f_13)), (r2, .inr (0, [.ref j2, .int (nI L2.length)])), (j2, .inl (cI, 30, .inl f2)), (r3, .inr (0, [.ref j3, .int (nI (((lst L1) :: L3).length))])), (j3, .inl (cI, 30, .inl f_20)), (r4, .inr (0, [.ref j4, .int (nI L4.length)])), (j4, .inl (cI, 30, .inl f4))]) [0, 5, 6, 3, 4, 7, 8, 1, 2] (by decide) rfl
      exact W.vret hx hb hr (fun t ht hW => ⟨⟨((L1.dropLast, L2, ((lst L1) :: L3), L4), (lst L1)), rfl, (room_b (by omega) (by omega) (Or.inl (Or.inl (by omega))) lv), _, _, _, _, hf_14, hR2, hf_21, hR4, g_at hP9 hK hD9 ht hW⟩, hS.F ht⟩) hS.2.2 dX1_makeRoom_138
    · refine lv_iload_n hx hb dX1_makeRoom_33 rfl (lv_at hl 2 rfl) ?_
      refine g_if_eq (tgt := 49) hx hb dX1_makeRoom_34 (by decide) (by omega) (fun c_25 => ?_) (fun c_25 => ?_)
      · have hff : ff = false := ff_f c_25
        refine lv_iconst (v := (nI 0)) hx hb dX1_makeRoom_49 (by decide +kernel) ?_
        refine lv_istore_n (lv' := [(3, .int (nI 0)), (2, .int (nI L1.length)), (0, .ref sh), (1, .int (nI ff.toNat))]) hx hb dX1_makeRoom_50 rfl hl (by decide) rfl (fun ls hl => ?_)
        refine lv_iload_n hx hb dX1_makeRoom_51 rfl (lv_at hl 1 rfl) ?_
        refine g_if_le (tgt := 59) hx hb dX1_makeRoom_52 (by decide) (by omega) (fun c_26 => ?_) (fun c_26 => ?_)
        · refine lv_aload_n hx hb dX1_makeRoom_59 rfl (lv_at hl 2 rfl) ?_
          refine va_get (D := G) (ci := 1) (v := .ref r2) (C := RX1) (T := TX1) (N := 7) hx hb hts iX1_makeRoom_X1 hown hK hP 0 rfl rfl 1 (by decide) (hts (.fieldLink RX1 20 "GhostPantry$Shelves" "frequent" "LGhostPantry$Row;") (by decide +kernel)) (fun _ h9 => h9) rfl dX1_makeRoom_60 ?_
          have hPc := hP.sub (ws' := [(r2, .inr (0, [.ref j2, .int (nI L2.length)])), (j2, .inl (cI, 30, .inl f2))]) [7, 8] rfl
          have hDc := hD.sub (ws' := [(r2, .inr (0, [.ref j2, .int (nI L2.length)])), (j2, .inl (cI, 30, .inl f2))]) [7, 8] (by decide) rfl
          have hKc := hK.sub (tys' := [(cI, .int)]) [0] rfl
          have hFc := va_free (wc := [(r2, .inr (0, [.ref j2, .int (nI L2.length)])), (j2, .inl (cI, 30, .inl f2))]) hD hS hA [7, 8] rfl
          refine va_calli (va_runV (As := []) (rest := []) ⟨hx, hb, hml, hown, hts⟩ (c_X0_length l G cI r2 j2 f2 L2 hR2 (by omega)  H_4.size) (cwV 0 hts gX1_makeRoom_X0_length rfl rfl rfl (by decide +kernel) ⟨Nat.le_of_ble_eq_true rfl, Nat.le_of_ble_eq_true rfl⟩) (g_preV (As := []) hPc hKc hDc 0 rfl rfl) rfl rfl hl.1 rfl (lv_room (Nat.le_of_ble_eq_true rfl)) dX1_makeRoom_63 ⟨(Nat.le_of_ble_eq_true rfl), (Nat.le_of_ble_eq_true rfl)⟩) hS (fun q _ h => hFc q h) hFc (fun r_28 u_29 t H_27 locs ht hvm hw hB hz1 hk1 hS1 => ?_)
          subst hw
          obtain ⟨hP1, hD1⟩ := g_join (wc := [(r2, .inr (0, [.ref j2, .int (nI L2.length)])), (j2, .inl (cI, 30, .inl f2))]) (wr := [(sh, .inr (1, [.ref r1, .ref r2, .ref r3, .ref r4, .int (nI rc), .int (nI bo), .int lv])), (r3, .inr (0, [.ref j3, .int (nI L3.length)])), (j3, .inl (cI, 30, .inl f3)), (r4, .inr (0, [.ref j4, .int (nI L4.length)])), (j4, .inl (cI, 30, .inl f4)), (r1, .inr (0, [.ref j1, .int (nI L1.length)])), (j1, .inl (cI, 30, .inl f1))]) (w1 := [(r2, .inr (0, [.ref j2, .int (nI L2.length)])), (j2, .inl (cI, 30, .inl f2))]) hP hD [7, 8] [0, 1, 2, 3, 4, 5, 6] rfl rfl (by decide) (by decide) ht hk1 hFc hB
          clear hB hk1 hz1 hvm ht hPc hDc hKc hFc
          clear hP hD hS
          have hP : va_P G vwCl [(sh, .inr (1, [.ref r1, .ref r2, .ref r3, .ref r4, .int (nI rc), .int (nI bo), .int lv])), (r3, .inr (0, [.ref j3, .int (nI L3.length)])), (j3, .inl (cI, 30, .inl f3)), (r4, .inr (0, [.ref j4, .int (nI L4.length)])), (j4, .inl (cI, 30, .inl f4)), (r1, .inr (0, [.ref j1, .int (nI L1.length)])), (j1, .inl (cI, 30, .inl f1)), (r2, .inr (0, [.ref j2, .int (nI L2.length)])), (j2, .inl (cI, 30, .inl f2))] H_27 := hP1
          have hD : va_D A [(sh, .inr (1, [.ref r1, .ref r2, .ref r3, .ref r4, .int (nI rc), .int (nI bo), .int lv])), (r3, .inr (0, [.ref j3, .int (nI L3.length)])), (j3, .inl (cI, 30, .inl f3)), (r4, .inr (0, [.ref j4, .int (nI L4.length)])), (j4, .inl (cI, 30, .inl f4)), (r1, .inr (0, [.ref j1, .int (nI L1.length)])), (j1, .inl (cI, 30, .inl f1)), (r2, .inr (0, [.ref j2, .int (nI L2.length)])), (j2, .inl (cI, 30, .inl f2))] := hD1
          have hS := hS1
          clear hP1 hD1 hS1
          refine g_if_ne (tgt := 73) hx hb dX1_makeRoom_66 (by decide) (by omega) (fun c_30 => ?_) (fun c_30 => False.elim (by omega))
          refine lv_iconst (v := (nI 0)) hx hb dX1_makeRoom_73 (by decide +kernel) ?_
          refine lv_istore (lv' := [(4, .int (nI 0)), (3, .int (nI 0)), (2, .int (nI L1.length)), (0, .ref sh), (1, .int (nI ff.toNat))]) hx hb dX1_makeRoom_74 hl (by decide) rfl (fun ls hl => ?_)
          refine lv_iload hx hb dX1_makeRoom_76 (lv_at hl 0 rfl) ?_
          refine g_if_eq (tgt := 88) hx hb dX1_makeRoom_78 (by decide) (by decide) (fun c_31 => ?_) (fun c_31 => False.elim (by omega))
          refine lv_aload_n hx hb dX1_makeRoom_88 rfl (lv_at hl 3 rfl) ?_
          refine va_get (D := G) (ci := 1) (v := .ref r2) (C := RX1) (T := TX1) (N := 7) hx hb hts iX1_makeRoom_X1 hown hK hP 0 rfl rfl 1 (by decide) (hts (.fieldLink RX1 20 "GhostPantry$Shelves" "frequent" "LGhostPantry$Row;") (by decide +kernel)) (fun _ h9 => h9) rfl dX1_makeRoom_89 ?_
          refine lv_astore (lv' := [(5, .ref r2), (4, .int (nI 0)), (3, .int (nI 0)), (2, .int (nI L1.length)), (0, .ref sh), (1, .int (nI ff.toNat))]) hx hb dX1_makeRoom_92 hl (by decide) rfl (fun ls hl => ?_)
          refine lv_iload hx hb dX1_makeRoom_94 (lv_at hl 1 rfl) ?_
          refine g_if_eq (tgt := 106) hx hb dX1_makeRoom_96 (by decide) (by decide) (fun c_32 => ?_) (fun c_32 => False.elim (by omega))
          refine lv_aload_n hx hb dX1_makeRoom_106 rfl (lv_at hl 4 rfl) ?_
          refine va_get (D := G) (ci := 1) (v := .ref r4) (C := RX1) (T := TX1) (N := 7) hx hb hts iX1_makeRoom_X1 hown hK hP 0 rfl rfl 3 (by decide) (hts (.fieldLink RX1 26 "GhostPantry$Shelves" "frequentGhosts" "LGhostPantry$Row;") (by decide +kernel)) (fun _ h9 => h9) rfl dX1_makeRoom_107 ?_
          refine lv_astore (lv' := [(6, .ref r4), (5, .ref r2), (4, .int (nI 0)), (3, .int (nI 0)), (2, .int (nI L1.length)), (0, .ref sh), (1, .int (nI ff.toNat))]) hx hb dX1_makeRoom_110 hl (by decide) rfl (fun ls hl => ?_)
          refine lv_aload_n hx hb dX1_makeRoom_112 rfl (lv_at hl 5 rfl) ?_
          refine lv_aload hx hb dX1_makeRoom_113 (lv_at hl 1 rfl) ?_
          have hPc := hP.sub (ws' := [(r2, .inr (0, [.ref j2, .int (nI L2.length)])), (j2, .inl (cI, 30, .inl f2))]) [7, 8] rfl
          have hDc := hD.sub (ws' := [(r2, .inr (0, [.ref j2, .int (nI L2.length)])), (j2, .inl (cI, 30, .inl f2))]) [7, 8] (by decide) rfl
          have hKc := hK.sub (tys' := [(cI, .int)]) [0] rfl
          have hFc := va_free (wc := [(r2, .inr (0, [.ref j2, .int (nI L2.length)])), (j2, .inl (cI, 30, .inl f2))]) hD hS hA [7, 8] rfl
          refine va_calli (va_runV (As := []) (rest := [.ref sh]) ⟨hx, hb, hml, hown, hts⟩ (c_X0_takeLast l G cI r2 j2 f2 L2 hR2 (by omega) (by omega) H_27.size) (cwV 0 hts gX1_makeRoom_X0_takeLast rfl rfl rfl (by decide +kernel) ⟨Nat.le_of_ble_eq_true rfl, Nat.le_of_ble_eq_true rfl⟩) (g_preV (As := []) hPc hKc hDc 0 rfl rfl) rfl rfl hl.1 rfl (lv_room (Nat.le_of_ble_eq_true rfl)) dX1_makeRoom_115 ⟨(Nat.le_of_ble_eq_true rfl), (Nat.le_of_ble_eq_true rfl)⟩) hS (fun q _ h => hFc q h) hFc (fun r_36 u_37 t H_35 locs ht hvm hw hB hz1 hk1 hS1 => ?_)
          subst hw
          obtain ⟨f_33, hf_34, hB⟩ := hB
          obtain ⟨hP1, hD1⟩ := g_join (wc := [(r2, .inr (0, [.ref j2, .int (nI L2.length)])), (j2, .inl (cI, 30, .inl f2))]) (wr := [(sh, .inr (1, [.ref r1, .ref r2, .ref r3, .ref r4, .int (nI rc), .int (nI bo), .int lv])), (r3, .inr (0, [.ref j3, .int (nI L3.length)])), (j3, .inl (cI, 30, .inl f3)), (r4, .inr (0, [.ref j4, .int (nI L4.length)])), (j4, .inl (cI, 30, .inl f4)), (r1, .inr (0, [.ref j1, .int (nI L1.length)])), (j1, .inl (cI, 30, .inl f1))]) (w1 := [(r2, .inr (0, [.ref j2, .int (nI L2.dropLast.length)])), (j2, .inl (cI, 30, .inl f_33))]) hP hD [7, 8] [0, 1, 2, 3, 4, 5, 6] rfl rfl (by decide) (by decide) ht hk1 hFc hB
          clear hB hk1 hz1 hvm ht hPc hDc hKc hFc
          clear hP hD hS
          have hP : va_P G vwCl [(sh, .inr (1, [.ref r1, .ref r2, .ref r3, .ref r4, .int (nI rc), .int (nI bo), .int lv])), (r3, .inr (0, [.ref j3, .int (nI L3.length)])), (j3, .inl (cI, 30, .inl f3)), (r4, .inr (0, [.ref j4, .int (nI L4.length)])), (j4, .inl (cI, 30, .inl f4)), (r1, .inr (0, [.ref j1, .int (nI L1.length)])), (j1, .inl (cI, 30, .inl f1)), (r2, .inr (0, [.ref j2, .int (nI L2.dropLast.length)])), (j2, .inl (cI, 30, .inl f_33))] H_35 := hP1
          have hD : va_D A [(sh, .inr (1, [.ref r1, .ref r2, .ref r3, .ref r4, .int (nI rc), .int (nI bo), .int lv])), (r3, .inr (0, [.ref j3, .int (nI L3.length)])), (j3, .inl (cI, 30, .inl f3)), (r4, .inr (0, [.ref j4, .int (nI L4.length)])), (j4, .inl (cI, 30, .inl f4)), (r1, .inr (0, [.ref j1, .int (nI L1.length)])), (j1, .inl (cI, 30, .inl f1)), (r2, .inr (0, [.ref j2, .int (nI L2.dropLast.length)])), (j2, .inl (cI, 30, .inl f_33))] := hD1
          have hS := hS1
          clear hP1 hD1 hS1
          refine va_put (D := G) (ci := 1) (v := .int (lst L2)) (ty := .int) (C := RX1) (T := TX1) (N := 7) hx hb hts iX1_makeRoom_X1 tyX1 tyX1_ok nmX1 hown hK hP hD hS 0 rfl rfl 6 (by decide) (hts (.fieldLink RX1 36 "GhostPantry$Shelves" "leaver" "I") (by decide +kernel)) (fun _ h9 => h9) rfl (by decide +kernel) rfl rfl (Nat.le_of_ble_eq_true rfl) dX1_makeRoom_118 (fun H_38 locs hP1 hD1 hS1 => ?_)
          clear hP hD hS
          have hP : va_P G vwCl [(sh, .inr (1, [.ref r1, .ref r2, .ref r3, .ref r4, .int (nI rc), .int (nI bo), .int (lst L2)])), (r3, .inr (0, [.ref j3, .int (nI L3.length)])), (j3, .inl (cI, 30, .inl f3)), (r4, .inr (0, [.ref j4, .int (nI L4.length)])), (j4, .inl (cI, 30, .inl f4)), (r1, .inr (0, [.ref j1, .int (nI L1.length)])), (j1, .inl (cI, 30, .inl f1)), (r2, .inr (0, [.ref j2, .int (nI L2.dropLast.length)])), (j2, .inl (cI, 30, .inl f_33))] H_38 := hP1
          have hD : va_D A [(sh, .inr (1, [.ref r1, .ref r2, .ref r3, .ref r4, .int (nI rc), .int (nI bo), .int (lst L2)])), (r3, .inr (0, [.ref j3, .int (nI L3.length)])), (j3, .inl (cI, 30, .inl f3)), (r4, .inr (0, [.ref j4, .int (nI L4.length)])), (j4, .inl (cI, 30, .inl f4)), (r1, .inr (0, [.ref j1, .int (nI L1.length)])), (j1, .inl (cI, 30, .inl f1)), (r2, .inr (0, [.ref j2, .int (nI L2.dropLast.length)])), (j2, .inl (cI, 30, .inl f_33))] := hD1
          have hS := hS1
          clear hP1 hD1 hS1
          refine lv_aload_n hx hb dX1_makeRoom_121 rfl (lv_at hl 5 rfl) ?_
          refine va_get (D := G) (ci := 1) (v := .int (lst L2)) (C := RX1) (T := TX1) (N := 7) hx hb hts iX1_makeRoom_X1 hown hK hP 0 rfl rfl 6 (by decide) (hts (.fieldLink RX1 36 "GhostPantry$Shelves" "leaver" "I") (by decide +kernel)) (fun _ h9 => h9) rfl dX1_makeRoom_122 ?_
          refine lv_iconst (v := (-1)) hx hb dX1_makeRoom_125 (by decide +kernel) ?_
          refine lv_icmp_eq (tgt := 138) hx hb dX1_makeRoom_126 (by decide) (fun c_39 => False.elim (by exact ok_ne (ok_lst hj2 (by omega)) c_39)) (fun c_39 => ?_)
          refine lv_aload hx hb dX1_makeRoom_129 (lv_at hl 0 rfl) ?_
          refine lv_aload_n hx hb dX1_makeRoom_131 rfl (lv_at hl 5 rfl) ?_
          refine va_get (D := G) (ci := 1) (v := .int (lst L2)) (C := RX1) (T := TX1) (N := 7) hx hb hts iX1_makeRoom_X1 hown hK hP 0 rfl rfl 6 (by decide) (hts (.fieldLink RX1 36 "GhostPantry$Shelves" "leaver" "I") (by decide +kernel)) (fun _ h9 => h9) rfl dX1_makeRoom_132 ?_
          have hPc := hP.sub (ws' := [(r4, .inr (0, [.ref j4, .int (nI L4.length)])), (j4, .inl (cI, 30, .inl f4))]) [3, 4] rfl
          have hDc := hD.sub (ws' := [(r4, .inr (0, [.ref j4, .int (nI L4.length)])), (j4, .inl (cI, 30, .inl f4))]) [3, 4] (by decide) rfl
          have hKc := hK.sub (tys' := [(cI, .int)]) [0] rfl
          have hFc := va_free (wc := [(r4, .inr (0, [.ref j4, .int (nI L4.length)])), (j4, .inl (cI, 30, .inl f4))]) hD hS hA [3, 4] rfl
          refine va_callv (va_runV (As := [.int (lst L2)]) (rest := []) ⟨hx, hb, hml, hown, hts⟩ (c_X0_putFirst l G cI r4 j4 f4 L4 hR4 (by omega) (lst L2) (by omega) H_38.size) (cwV 1 hts gX1_makeRoom_X0_putFirst rfl rfl rfl (by decide +kernel) ⟨Nat.le_of_ble_eq_true rfl, Nat.le_of_ble_eq_true rfl⟩) (g_preV (As := [.int (lst L2)]) hPc hKc hDc 0 rfl rfl) rfl rfl hl.1 rfl (lv_room (Nat.le_of_ble_eq_true rfl)) dX1_makeRoom_135 ⟨(Nat.le_of_ble_eq_true rfl), (Nat.le_of_ble_eq_true rfl)⟩) hS (fun q _ h => hFc q h) hFc (fun u_44 t H_42 locs ht hvm hw hB hz1 hk1 hS1 => ?_)
          obtain ⟨f_40, hf_41, hB⟩ := hB
          obtain ⟨hP1, hD1⟩ := g_join (wc := [(r4, .inr (0, [.ref j4, .int (nI L4.length)])), (j4, .inl (cI, 30, .inl f4))]) (wr := [(sh, .inr (1, [.ref r1, .ref r2, .ref r3, .ref r4, .int (nI rc), .int (nI bo), .int (lst L2)])), (r3, .inr (0, [.ref j3, .int (nI L3.length)])), (j3, .inl (cI, 30, .inl f3)), (r1, .inr (0, [.ref j1, .int (nI L1.length)])), (j1, .inl (cI, 30, .inl f1)), (r2, .inr (0, [.ref j2, .int (nI L2.dropLast.length)])), (j2, .inl (cI, 30, .inl f_33))]) (w1 := [(r4, .inr (0, [.ref j4, .int (nI (((lst L2) :: L4).length))])), (j4, .inl (cI, 30, .inl f_40))]) hP hD [3, 4] [0, 1, 2, 5, 6, 7, 8] rfl rfl (by decide) (by decide) ht hk1 hFc hB
          clear hB hk1 hz1 hvm ht hPc hDc hKc hFc
          clear hP hD hS
          have hP : va_P G vwCl [(sh, .inr (1, [.ref r1, .ref r2, .ref r3, .ref r4, .int (nI rc), .int (nI bo), .int (lst L2)])), (r3, .inr (0, [.ref j3, .int (nI L3.length)])), (j3, .inl (cI, 30, .inl f3)), (r1, .inr (0, [.ref j1, .int (nI L1.length)])), (j1, .inl (cI, 30, .inl f1)), (r2, .inr (0, [.ref j2, .int (nI L2.dropLast.length)])), (j2, .inl (cI, 30, .inl f_33)), (r4, .inr (0, [.ref j4, .int (nI (((lst L2) :: L4).length))])), (j4, .inl (cI, 30, .inl f_40))] H_42 := hP1
          have hD : va_D A [(sh, .inr (1, [.ref r1, .ref r2, .ref r3, .ref r4, .int (nI rc), .int (nI bo), .int (lst L2)])), (r3, .inr (0, [.ref j3, .int (nI L3.length)])), (j3, .inl (cI, 30, .inl f3)), (r1, .inr (0, [.ref j1, .int (nI L1.length)])), (j1, .inl (cI, 30, .inl f1)), (r2, .inr (0, [.ref j2, .int (nI L2.dropLast.length)])), (j2, .inl (cI, 30, .inl f_33)), (r4, .inr (0, [.ref j4, .int (nI (((lst L2) :: L4).length))])), (j4, .inl (cI, 30, .inl f_40))] := hD1
          have hS := hS1
          clear hP1 hD1 hS1
          have hP9 := hP.sub (ws' := [(sh, .inr (1, [.ref r1, .ref r2, .ref r3, .ref r4, .int (nI rc), .int (nI bo), .int (lst L2)])), (r1, .inr (0, [.ref j1, .int (nI L1.length)])), (j1, .inl (cI, 30, .inl f1)), (r2, .inr (0, [.ref j2, .int (nI L2.dropLast.length)])), (j2, .inl (cI, 30, .inl f_33)), (r3, .inr (0, [.ref j3, .int (nI L3.length)])), (j3, .inl (cI, 30, .inl f3)), (r4, .inr (0, [.ref j4, .int (nI (((lst L2) :: L4).length))])), (j4, .inl (cI, 30, .inl f_40))]) [0, 3, 4, 5, 6, 1, 2, 7, 8] rfl
          have hD9 := hD.sub (ws' := [(sh, .inr (1, [.ref r1, .ref r2, .ref r3, .ref r4, .int (nI rc), .int (nI bo), .int (lst L2)])), (r1, .inr (0, [.ref j1, .int (nI L1.length)])), (j1, .inl (cI, 30, .inl f1)), (r2, .inr (0, [.ref j2, .int (nI L2.dropLast.length)])), (j2, .inl (cI, 30, .inl f_33)), (r3, .inr (0, [.ref j3, .int (nI L3.length)])), (j3, .inl (cI, 30, .inl f3)), (r4, .inr (0, [.ref j4, .int (nI (((lst L2) :: L4).length))])), (j4, .inl (cI, 30, .inl f_40))]) [0, 3, 4, 5, 6, 1, 2, 7, 8] (by decide) rfl
          exact W.vret hx hb hr (fun t ht hW => ⟨⟨((L1, L2.dropLast, L3, ((lst L2) :: L4)), (lst L2)), rfl, (room_c (by omega) (fun z => by rcases z with ⟨z1, (z2 | ⟨z2, z3⟩) | z2⟩ <;> first | omega | (exact absurd z3 (by rw [hff]; decide))) lv), _, _, _, _, hR1, hf_34, hR3, hf_41, g_at hP9 hK hD9 ht hW⟩, hS.F ht⟩) hS.2.2 dX1_makeRoom_138
        · refine lv_iload_n hx hb dX1_makeRoom_55 rfl (lv_at hl 0 rfl) ?_
          refine g_if_ne (tgt := 69) hx hb dX1_makeRoom_56 (by decide) (by decide) (fun c_45 => False.elim (by omega)) (fun c_45 => ?_)
          refine lv_aload_n hx hb dX1_makeRoom_59 rfl (lv_at hl 2 rfl) ?_
          refine va_get (D := G) (ci := 1) (v := .ref r2) (C := RX1) (T := TX1) (N := 7) hx hb hts iX1_makeRoom_X1 hown hK hP 0 rfl rfl 1 (by decide) (hts (.fieldLink RX1 20 "GhostPantry$Shelves" "frequent" "LGhostPantry$Row;") (by decide +kernel)) (fun _ h9 => h9) rfl dX1_makeRoom_60 ?_
          have hPc := hP.sub (ws' := [(r2, .inr (0, [.ref j2, .int (nI L2.length)])), (j2, .inl (cI, 30, .inl f2))]) [7, 8] rfl
          have hDc := hD.sub (ws' := [(r2, .inr (0, [.ref j2, .int (nI L2.length)])), (j2, .inl (cI, 30, .inl f2))]) [7, 8] (by decide) rfl
          have hKc := hK.sub (tys' := [(cI, .int)]) [0] rfl
          have hFc := va_free (wc := [(r2, .inr (0, [.ref j2, .int (nI L2.length)])), (j2, .inl (cI, 30, .inl f2))]) hD hS hA [7, 8] rfl
          refine va_calli (va_runV (As := []) (rest := []) ⟨hx, hb, hml, hown, hts⟩ (c_X0_length l G cI r2 j2 f2 L2 hR2 (by omega)  H_4.size) (cwV 0 hts gX1_makeRoom_X0_length rfl rfl rfl (by decide +kernel) ⟨Nat.le_of_ble_eq_true rfl, Nat.le_of_ble_eq_true rfl⟩) (g_preV (As := []) hPc hKc hDc 0 rfl rfl) rfl rfl hl.1 rfl (lv_room (Nat.le_of_ble_eq_true rfl)) dX1_makeRoom_63 ⟨(Nat.le_of_ble_eq_true rfl), (Nat.le_of_ble_eq_true rfl)⟩) hS (fun q _ h => hFc q h) hFc (fun r_47 u_48 t H_46 locs ht hvm hw hB hz1 hk1 hS1 => ?_)
          subst hw
          obtain ⟨hP1, hD1⟩ := g_join (wc := [(r2, .inr (0, [.ref j2, .int (nI L2.length)])), (j2, .inl (cI, 30, .inl f2))]) (wr := [(sh, .inr (1, [.ref r1, .ref r2, .ref r3, .ref r4, .int (nI rc), .int (nI bo), .int lv])), (r3, .inr (0, [.ref j3, .int (nI L3.length)])), (j3, .inl (cI, 30, .inl f3)), (r4, .inr (0, [.ref j4, .int (nI L4.length)])), (j4, .inl (cI, 30, .inl f4)), (r1, .inr (0, [.ref j1, .int (nI L1.length)])), (j1, .inl (cI, 30, .inl f1))]) (w1 := [(r2, .inr (0, [.ref j2, .int (nI L2.length)])), (j2, .inl (cI, 30, .inl f2))]) hP hD [7, 8] [0, 1, 2, 3, 4, 5, 6] rfl rfl (by decide) (by decide) ht hk1 hFc hB
          clear hB hk1 hz1 hvm ht hPc hDc hKc hFc
          clear hP hD hS
          have hP : va_P G vwCl [(sh, .inr (1, [.ref r1, .ref r2, .ref r3, .ref r4, .int (nI rc), .int (nI bo), .int lv])), (r3, .inr (0, [.ref j3, .int (nI L3.length)])), (j3, .inl (cI, 30, .inl f3)), (r4, .inr (0, [.ref j4, .int (nI L4.length)])), (j4, .inl (cI, 30, .inl f4)), (r1, .inr (0, [.ref j1, .int (nI L1.length)])), (j1, .inl (cI, 30, .inl f1)), (r2, .inr (0, [.ref j2, .int (nI L2.length)])), (j2, .inl (cI, 30, .inl f2))] H_46 := hP1
          have hD : va_D A [(sh, .inr (1, [.ref r1, .ref r2, .ref r3, .ref r4, .int (nI rc), .int (nI bo), .int lv])), (r3, .inr (0, [.ref j3, .int (nI L3.length)])), (j3, .inl (cI, 30, .inl f3)), (r4, .inr (0, [.ref j4, .int (nI L4.length)])), (j4, .inl (cI, 30, .inl f4)), (r1, .inr (0, [.ref j1, .int (nI L1.length)])), (j1, .inl (cI, 30, .inl f1)), (r2, .inr (0, [.ref j2, .int (nI L2.length)])), (j2, .inl (cI, 30, .inl f2))] := hD1
          have hS := hS1
          clear hP1 hD1 hS1
          refine g_if_ne (tgt := 73) hx hb dX1_makeRoom_66 (by decide) (by omega) (fun c_49 => ?_) (fun c_49 => ?_)
          · refine lv_iconst (v := (nI 0)) hx hb dX1_makeRoom_73 (by decide +kernel) ?_
            refine lv_istore (lv' := [(4, .int (nI 0)), (3, .int (nI 0)), (2, .int (nI L1.length)), (0, .ref sh), (1, .int (nI ff.toNat))]) hx hb dX1_makeRoom_74 hl (by decide) rfl (fun ls hl => ?_)
            refine lv_iload hx hb dX1_makeRoom_76 (lv_at hl 0 rfl) ?_
            refine g_if_eq (tgt := 88) hx hb dX1_makeRoom_78 (by decide) (by decide) (fun c_50 => ?_) (fun c_50 => False.elim (by omega))
            refine lv_aload_n hx hb dX1_makeRoom_88 rfl (lv_at hl 3 rfl) ?_
            refine va_get (D := G) (ci := 1) (v := .ref r2) (C := RX1) (T := TX1) (N := 7) hx hb hts iX1_makeRoom_X1 hown hK hP 0 rfl rfl 1 (by decide) (hts (.fieldLink RX1 20 "GhostPantry$Shelves" "frequent" "LGhostPantry$Row;") (by decide +kernel)) (fun _ h9 => h9) rfl dX1_makeRoom_89 ?_
            refine lv_astore (lv' := [(5, .ref r2), (4, .int (nI 0)), (3, .int (nI 0)), (2, .int (nI L1.length)), (0, .ref sh), (1, .int (nI ff.toNat))]) hx hb dX1_makeRoom_92 hl (by decide) rfl (fun ls hl => ?_)
            refine lv_iload hx hb dX1_makeRoom_94 (lv_at hl 1 rfl) ?_
            refine g_if_eq (tgt := 106) hx hb dX1_makeRoom_96 (by decide) (by decide) (fun c_51 => ?_) (fun c_51 => False.elim (by omega))
            refine lv_aload_n hx hb dX1_makeRoom_106 rfl (lv_at hl 4 rfl) ?_
            refine va_get (D := G) (ci := 1) (v := .ref r4) (C := RX1) (T := TX1) (N := 7) hx hb hts iX1_makeRoom_X1 hown hK hP 0 rfl rfl 3 (by decide) (hts (.fieldLink RX1 26 "GhostPantry$Shelves" "frequentGhosts" "LGhostPantry$Row;") (by decide +kernel)) (fun _ h9 => h9) rfl dX1_makeRoom_107 ?_
            refine lv_astore (lv' := [(6, .ref r4), (5, .ref r2), (4, .int (nI 0)), (3, .int (nI 0)), (2, .int (nI L1.length)), (0, .ref sh), (1, .int (nI ff.toNat))]) hx hb dX1_makeRoom_110 hl (by decide) rfl (fun ls hl => ?_)
            refine lv_aload_n hx hb dX1_makeRoom_112 rfl (lv_at hl 5 rfl) ?_
            refine lv_aload hx hb dX1_makeRoom_113 (lv_at hl 1 rfl) ?_
            have hPc := hP.sub (ws' := [(r2, .inr (0, [.ref j2, .int (nI L2.length)])), (j2, .inl (cI, 30, .inl f2))]) [7, 8] rfl
            have hDc := hD.sub (ws' := [(r2, .inr (0, [.ref j2, .int (nI L2.length)])), (j2, .inl (cI, 30, .inl f2))]) [7, 8] (by decide) rfl
            have hKc := hK.sub (tys' := [(cI, .int)]) [0] rfl
            have hFc := va_free (wc := [(r2, .inr (0, [.ref j2, .int (nI L2.length)])), (j2, .inl (cI, 30, .inl f2))]) hD hS hA [7, 8] rfl
            refine va_calli (va_runV (As := []) (rest := [.ref sh]) ⟨hx, hb, hml, hown, hts⟩ (c_X0_takeLast l G cI r2 j2 f2 L2 hR2 (by omega) (by omega) H_46.size) (cwV 0 hts gX1_makeRoom_X0_takeLast rfl rfl rfl (by decide +kernel) ⟨Nat.le_of_ble_eq_true rfl, Nat.le_of_ble_eq_true rfl⟩) (g_preV (As := []) hPc hKc hDc 0 rfl rfl) rfl rfl hl.1 rfl (lv_room (Nat.le_of_ble_eq_true rfl)) dX1_makeRoom_115 ⟨(Nat.le_of_ble_eq_true rfl), (Nat.le_of_ble_eq_true rfl)⟩) hS (fun q _ h => hFc q h) hFc (fun r_55 u_56 t H_54 locs ht hvm hw hB hz1 hk1 hS1 => ?_)
            subst hw
            obtain ⟨f_52, hf_53, hB⟩ := hB
            obtain ⟨hP1, hD1⟩ := g_join (wc := [(r2, .inr (0, [.ref j2, .int (nI L2.length)])), (j2, .inl (cI, 30, .inl f2))]) (wr := [(sh, .inr (1, [.ref r1, .ref r2, .ref r3, .ref r4, .int (nI rc), .int (nI bo), .int lv])), (r3, .inr (0, [.ref j3, .int (nI L3.length)])), (j3, .inl (cI, 30, .inl f3)), (r4, .inr (0, [.ref j4, .int (nI L4.length)])), (j4, .inl (cI, 30, .inl f4)), (r1, .inr (0, [.ref j1, .int (nI L1.length)])), (j1, .inl (cI, 30, .inl f1))]) (w1 := [(r2, .inr (0, [.ref j2, .int (nI L2.dropLast.length)])), (j2, .inl (cI, 30, .inl f_52))]) hP hD [7, 8] [0, 1, 2, 3, 4, 5, 6] rfl rfl (by decide) (by decide) ht hk1 hFc hB
            clear hB hk1 hz1 hvm ht hPc hDc hKc hFc
            clear hP hD hS
            have hP : va_P G vwCl [(sh, .inr (1, [.ref r1, .ref r2, .ref r3, .ref r4, .int (nI rc), .int (nI bo), .int lv])), (r3, .inr (0, [.ref j3, .int (nI L3.length)])), (j3, .inl (cI, 30, .inl f3)), (r4, .inr (0, [.ref j4, .int (nI L4.length)])), (j4, .inl (cI, 30, .inl f4)), (r1, .inr (0, [.ref j1, .int (nI L1.length)])), (j1, .inl (cI, 30, .inl f1)), (r2, .inr (0, [.ref j2, .int (nI L2.dropLast.length)])), (j2, .inl (cI, 30, .inl f_52))] H_54 := hP1
            have hD : va_D A [(sh, .inr (1, [.ref r1, .ref r2, .ref r3, .ref r4, .int (nI rc), .int (nI bo), .int lv])), (r3, .inr (0, [.ref j3, .int (nI L3.length)])), (j3, .inl (cI, 30, .inl f3)), (r4, .inr (0, [.ref j4, .int (nI L4.length)])), (j4, .inl (cI, 30, .inl f4)), (r1, .inr (0, [.ref j1, .int (nI L1.length)])), (j1, .inl (cI, 30, .inl f1)), (r2, .inr (0, [.ref j2, .int (nI L2.dropLast.length)])), (j2, .inl (cI, 30, .inl f_52))] := hD1
            have hS := hS1
            clear hP1 hD1 hS1
            refine va_put (D := G) (ci := 1) (v := .int (lst L2)) (ty := .int) (C := RX1) (T := TX1) (N := 7) hx hb hts iX1_makeRoom_X1 tyX1 tyX1_ok nmX1 hown hK hP hD hS 0 rfl rfl 6 (by decide) (hts (.fieldLink RX1 36 "GhostPantry$Shelves" "leaver" "I") (by decide +kernel)) (fun _ h9 => h9) rfl (by decide +kernel) rfl rfl (Nat.le_of_ble_eq_true rfl) dX1_makeRoom_118 (fun H_57 locs hP1 hD1 hS1 => ?_)
            clear hP hD hS
            have hP : va_P G vwCl [(sh, .inr (1, [.ref r1, .ref r2, .ref r3, .ref r4, .int (nI rc), .int (nI bo), .int (lst L2)])), (r3, .inr (0, [.ref j3, .int (nI L3.length)])), (j3, .inl (cI, 30, .inl f3)), (r4, .inr (0, [.ref j4, .int (nI L4.length)])), (j4, .inl (cI, 30, .inl f4)), (r1, .inr (0, [.ref j1, .int (nI L1.length)])), (j1, .inl (cI, 30, .inl f1)), (r2, .inr (0, [.ref j2, .int (nI L2.dropLast.length)])), (j2, .inl (cI, 30, .inl f_52))] H_57 := hP1
            have hD : va_D A [(sh, .inr (1, [.ref r1, .ref r2, .ref r3, .ref r4, .int (nI rc), .int (nI bo), .int (lst L2)])), (r3, .inr (0, [.ref j3, .int (nI L3.length)])), (j3, .inl (cI, 30, .inl f3)), (r4, .inr (0, [.ref j4, .int (nI L4.length)])), (j4, .inl (cI, 30, .inl f4)), (r1, .inr (0, [.ref j1, .int (nI L1.length)])), (j1, .inl (cI, 30, .inl f1)), (r2, .inr (0, [.ref j2, .int (nI L2.dropLast.length)])), (j2, .inl (cI, 30, .inl f_52))] := hD1
            have hS := hS1
            clear hP1 hD1 hS1
            refine lv_aload_n hx hb dX1_makeRoom_121 rfl (lv_at hl 5 rfl) ?_
            refine va_get (D := G) (ci := 1) (v := .int (lst L2)) (C := RX1) (T := TX1) (N := 7) hx hb hts iX1_makeRoom_X1 hown hK hP 0 rfl rfl 6 (by decide) (hts (.fieldLink RX1 36 "GhostPantry$Shelves" "leaver" "I") (by decide +kernel)) (fun _ h9 => h9) rfl dX1_makeRoom_122 ?_
            refine lv_iconst (v := (-1)) hx hb dX1_makeRoom_125 (by decide +kernel) ?_
            refine lv_icmp_eq (tgt := 138) hx hb dX1_makeRoom_126 (by decide) (fun c_58 => False.elim (by exact ok_ne (ok_lst hj2 (by omega)) c_58)) (fun c_58 => ?_)
            refine lv_aload hx hb dX1_makeRoom_129 (lv_at hl 0 rfl) ?_
            refine lv_aload_n hx hb dX1_makeRoom_131 rfl (lv_at hl 5 rfl) ?_
            refine va_get (D := G) (ci := 1) (v := .int (lst L2)) (C := RX1) (T := TX1) (N := 7) hx hb hts iX1_makeRoom_X1 hown hK hP 0 rfl rfl 6 (by decide) (hts (.fieldLink RX1 36 "GhostPantry$Shelves" "leaver" "I") (by decide +kernel)) (fun _ h9 => h9) rfl dX1_makeRoom_132 ?_
            have hPc := hP.sub (ws' := [(r4, .inr (0, [.ref j4, .int (nI L4.length)])), (j4, .inl (cI, 30, .inl f4))]) [3, 4] rfl
            have hDc := hD.sub (ws' := [(r4, .inr (0, [.ref j4, .int (nI L4.length)])), (j4, .inl (cI, 30, .inl f4))]) [3, 4] (by decide) rfl
            have hKc := hK.sub (tys' := [(cI, .int)]) [0] rfl
            have hFc := va_free (wc := [(r4, .inr (0, [.ref j4, .int (nI L4.length)])), (j4, .inl (cI, 30, .inl f4))]) hD hS hA [3, 4] rfl
            refine va_callv (va_runV (As := [.int (lst L2)]) (rest := []) ⟨hx, hb, hml, hown, hts⟩ (c_X0_putFirst l G cI r4 j4 f4 L4 hR4 (by omega) (lst L2) (by omega) H_57.size) (cwV 1 hts gX1_makeRoom_X0_putFirst rfl rfl rfl (by decide +kernel) ⟨Nat.le_of_ble_eq_true rfl, Nat.le_of_ble_eq_true rfl⟩) (g_preV (As := [.int (lst L2)]) hPc hKc hDc 0 rfl rfl) rfl rfl hl.1 rfl (lv_room (Nat.le_of_ble_eq_true rfl)) dX1_makeRoom_135 ⟨(Nat.le_of_ble_eq_true rfl), (Nat.le_of_ble_eq_true rfl)⟩) hS (fun q _ h => hFc q h) hFc (fun u_63 t H_61 locs ht hvm hw hB hz1 hk1 hS1 => ?_)
            obtain ⟨f_59, hf_60, hB⟩ := hB
            obtain ⟨hP1, hD1⟩ := g_join (wc := [(r4, .inr (0, [.ref j4, .int (nI L4.length)])), (j4, .inl (cI, 30, .inl f4))]) (wr := [(sh, .inr (1, [.ref r1, .ref r2, .ref r3, .ref r4, .int (nI rc), .int (nI bo), .int (lst L2)])), (r3, .inr (0, [.ref j3, .int (nI L3.length)])), (j3, .inl (cI, 30, .inl f3)), (r1, .inr (0, [.ref j1, .int (nI L1.length)])), (j1, .inl (cI, 30, .inl f1)), (r2, .inr (0, [.ref j2, .int (nI L2.dropLast.length)])), (j2, .inl (cI, 30, .inl f_52))]) (w1 := [(r4, .inr (0, [.ref j4, .int (nI (((lst L2) :: L4).length))])), (j4, .inl (cI, 30, .inl f_59))]) hP hD [3, 4] [0, 1, 2, 5, 6, 7, 8] rfl rfl (by decide) (by decide) ht hk1 hFc hB
            clear hB hk1 hz1 hvm ht hPc hDc hKc hFc
            clear hP hD hS
            have hP : va_P G vwCl [(sh, .inr (1, [.ref r1, .ref r2, .ref r3, .ref r4, .int (nI rc), .int (nI bo), .int (lst L2)])), (r3, .inr (0, [.ref j3, .int (nI L3.length)])), (j3, .inl (cI, 30, .inl f3)), (r1, .inr (0, [.ref j1, .int (nI L1.length)])), (j1, .inl (cI, 30, .inl f1)), (r2, .inr (0, [.ref j2, .int (nI L2.dropLast.length)])), (j2, .inl (cI, 30, .inl f_52)), (r4, .inr (0, [.ref j4, .int (nI (((lst L2) :: L4).length))])), (j4, .inl (cI, 30, .inl f_59))] H_61 := hP1
            have hD : va_D A [(sh, .inr (1, [.ref r1, .ref r2, .ref r3, .ref r4, .int (nI rc), .int (nI bo), .int (lst L2)])), (r3, .inr (0, [.ref j3, .int (nI L3.length)])), (j3, .inl (cI, 30, .inl f3)), (r1, .inr (0, [.ref j1, .int (nI L1.length)])), (j1, .inl (cI, 30, .inl f1)), (r2, .inr (0, [.ref j2, .int (nI L2.dropLast.length)])), (j2, .inl (cI, 30, .inl f_52)), (r4, .inr (0, [.ref j4, .int (nI (((lst L2) :: L4).length))])), (j4, .inl (cI, 30, .inl f_59))] := hD1
            have hS := hS1
            clear hP1 hD1 hS1
            have hP9 := hP.sub (ws' := [(sh, .inr (1, [.ref r1, .ref r2, .ref r3, .ref r4, .int (nI rc), .int (nI bo), .int (lst L2)])), (r1, .inr (0, [.ref j1, .int (nI L1.length)])), (j1, .inl (cI, 30, .inl f1)), (r2, .inr (0, [.ref j2, .int (nI L2.dropLast.length)])), (j2, .inl (cI, 30, .inl f_52)), (r3, .inr (0, [.ref j3, .int (nI L3.length)])), (j3, .inl (cI, 30, .inl f3)), (r4, .inr (0, [.ref j4, .int (nI (((lst L2) :: L4).length))])), (j4, .inl (cI, 30, .inl f_59))]) [0, 3, 4, 5, 6, 1, 2, 7, 8] rfl
            have hD9 := hD.sub (ws' := [(sh, .inr (1, [.ref r1, .ref r2, .ref r3, .ref r4, .int (nI rc), .int (nI bo), .int (lst L2)])), (r1, .inr (0, [.ref j1, .int (nI L1.length)])), (j1, .inl (cI, 30, .inl f1)), (r2, .inr (0, [.ref j2, .int (nI L2.dropLast.length)])), (j2, .inl (cI, 30, .inl f_52)), (r3, .inr (0, [.ref j3, .int (nI L3.length)])), (j3, .inl (cI, 30, .inl f3)), (r4, .inr (0, [.ref j4, .int (nI (((lst L2) :: L4).length))])), (j4, .inl (cI, 30, .inl f_59))]) [0, 3, 4, 5, 6, 1, 2, 7, 8] (by decide) rfl
            exact W.vret hx hb hr (fun t ht hW => ⟨⟨((L1, L2.dropLast, L3, ((lst L2) :: L4)), (lst L2)), rfl, (room_c (by omega) (fun z => by rcases z with ⟨z1, (z2 | ⟨z2, z3⟩) | z2⟩ <;> first | omega | (exact absurd z3 (by rw [hff]; decide))) lv), _, _, _, _, hR1, hf_53, hR3, hf_60, g_at hP9 hK hD9 ht hW⟩, hS.F ht⟩) hS.2.2 dX1_makeRoom_138
          · refine lv_iconst (v := (nI 1)) hx hb dX1_makeRoom_69 (by decide +kernel) ?_
            refine lv_goto (tgt := 74) hx hb dX1_makeRoom_70 (by decide) ?_
            refine lv_istore (lv' := [(4, .int (nI 1)), (3, .int (nI 0)), (2, .int (nI L1.length)), (0, .ref sh), (1, .int (nI ff.toNat))]) hx hb dX1_makeRoom_74 hl (by decide) rfl (fun ls hl => ?_)
            refine lv_iload hx hb dX1_makeRoom_76 (lv_at hl 0 rfl) ?_
            refine g_if_eq (tgt := 88) hx hb dX1_makeRoom_78 (by decide) (by decide) (fun c_64 => False.elim (by omega)) (fun c_64 => ?_)
            refine lv_aload_n hx hb dX1_makeRoom_81 rfl (lv_at hl 3 rfl) ?_
            refine va_get (D := G) (ci := 1) (v := .ref r1) (C := RX1) (T := TX1) (N := 7) hx hb hts iX1_makeRoom_X1 hown hK hP 0 rfl rfl 0 (by decide) (hts (.fieldLink RX1 14 "GhostPantry$Shelves" "recent" "LGhostPantry$Row;") (by decide +kernel)) (fun _ h9 => h9) rfl dX1_makeRoom_82 ?_
            refine lv_goto (tgt := 92) hx hb dX1_makeRoom_85 (by decide) ?_
            refine lv_astore (lv' := [(5, .ref r1), (4, .int (nI 1)), (3, .int (nI 0)), (2, .int (nI L1.length)), (0, .ref sh), (1, .int (nI ff.toNat))]) hx hb dX1_makeRoom_92 hl (by decide) rfl (fun ls hl => ?_)
            refine lv_iload hx hb dX1_makeRoom_94 (lv_at hl 1 rfl) ?_
            refine g_if_eq (tgt := 106) hx hb dX1_makeRoom_96 (by decide) (by decide) (fun c_65 => False.elim (by omega)) (fun c_65 => ?_)
            refine lv_aload_n hx hb dX1_makeRoom_99 rfl (lv_at hl 4 rfl) ?_
            refine va_get (D := G) (ci := 1) (v := .ref r3) (C := RX1) (T := TX1) (N := 7) hx hb hts iX1_makeRoom_X1 hown hK hP 0 rfl rfl 2 (by decide) (hts (.fieldLink RX1 23 "GhostPantry$Shelves" "recentGhosts" "LGhostPantry$Row;") (by decide +kernel)) (fun _ h9 => h9) rfl dX1_makeRoom_100 ?_
            refine lv_goto (tgt := 110) hx hb dX1_makeRoom_103 (by decide) ?_
            refine lv_astore (lv' := [(6, .ref r3), (5, .ref r1), (4, .int (nI 1)), (3, .int (nI 0)), (2, .int (nI L1.length)), (0, .ref sh), (1, .int (nI ff.toNat))]) hx hb dX1_makeRoom_110 hl (by decide) rfl (fun ls hl => ?_)
            refine lv_aload_n hx hb dX1_makeRoom_112 rfl (lv_at hl 5 rfl) ?_
            refine lv_aload hx hb dX1_makeRoom_113 (lv_at hl 1 rfl) ?_
            have hPc := hP.sub (ws' := [(r1, .inr (0, [.ref j1, .int (nI L1.length)])), (j1, .inl (cI, 30, .inl f1))]) [5, 6] rfl
            have hDc := hD.sub (ws' := [(r1, .inr (0, [.ref j1, .int (nI L1.length)])), (j1, .inl (cI, 30, .inl f1))]) [5, 6] (by decide) rfl
            have hKc := hK.sub (tys' := [(cI, .int)]) [0] rfl
            have hFc := va_free (wc := [(r1, .inr (0, [.ref j1, .int (nI L1.length)])), (j1, .inl (cI, 30, .inl f1))]) hD hS hA [5, 6] rfl
            refine va_calli (va_runV (As := []) (rest := [.ref sh]) ⟨hx, hb, hml, hown, hts⟩ (c_X0_takeLast l G cI r1 j1 f1 L1 hR1 (by omega) (by omega) H_46.size) (cwV 0 hts gX1_makeRoom_X0_takeLast rfl rfl rfl (by decide +kernel) ⟨Nat.le_of_ble_eq_true rfl, Nat.le_of_ble_eq_true rfl⟩) (g_preV (As := []) hPc hKc hDc 0 rfl rfl) rfl rfl hl.1 rfl (lv_room (Nat.le_of_ble_eq_true rfl)) dX1_makeRoom_115 ⟨(Nat.le_of_ble_eq_true rfl), (Nat.le_of_ble_eq_true rfl)⟩) hS (fun q _ h => hFc q h) hFc (fun r_69 u_70 t H_68 locs ht hvm hw hB hz1 hk1 hS1 => ?_)
            subst hw
            obtain ⟨f_66, hf_67, hB⟩ := hB
            obtain ⟨hP1, hD1⟩ := g_join (wc := [(r1, .inr (0, [.ref j1, .int (nI L1.length)])), (j1, .inl (cI, 30, .inl f1))]) (wr := [(sh, .inr (1, [.ref r1, .ref r2, .ref r3, .ref r4, .int (nI rc), .int (nI bo), .int lv])), (r3, .inr (0, [.ref j3, .int (nI L3.length)])), (j3, .inl (cI, 30, .inl f3)), (r4, .inr (0, [.ref j4, .int (nI L4.length)])), (j4, .inl (cI, 30, .inl f4)), (r2, .inr (0, [.ref j2, .int (nI L2.length)])), (j2, .inl (cI, 30, .inl f2))]) (w1 := [(r1, .inr (0, [.ref j1, .int (nI L1.dropLast.length)])), (j1, .inl (cI, 30, .inl f_66))]) hP hD [5, 6] [0, 1, 2, 3, 4, 7, 8] rfl rfl (by decide) (by decide) ht hk1 hFc hB
            clear hB hk1 hz1 hvm ht hPc hDc hKc hFc
            clear hP hD hS
            have hP : va_P G vwCl [(sh, .inr (1, [.ref r1, .ref r2, .ref r3, .ref r4, .int (nI rc), .int (nI bo), .int lv])), (r3, .inr (0, [.ref j3, .int (nI L3.length)])), (j3, .inl (cI, 30, .inl f3)), (r4, .inr (0, [.ref j4, .int (nI L4.length)])), (j4, .inl (cI, 30, .inl f4)), (r2, .inr (0, [.ref j2, .int (nI L2.length)])), (j2, .inl (cI, 30, .inl f2)), (r1, .inr (0, [.ref j1, .int (nI L1.dropLast.length)])), (j1, .inl (cI, 30, .inl f_66))] H_68 := hP1
            have hD : va_D A [(sh, .inr (1, [.ref r1, .ref r2, .ref r3, .ref r4, .int (nI rc), .int (nI bo), .int lv])), (r3, .inr (0, [.ref j3, .int (nI L3.length)])), (j3, .inl (cI, 30, .inl f3)), (r4, .inr (0, [.ref j4, .int (nI L4.length)])), (j4, .inl (cI, 30, .inl f4)), (r2, .inr (0, [.ref j2, .int (nI L2.length)])), (j2, .inl (cI, 30, .inl f2)), (r1, .inr (0, [.ref j1, .int (nI L1.dropLast.length)])), (j1, .inl (cI, 30, .inl f_66))] := hD1
            have hS := hS1
            clear hP1 hD1 hS1
            refine va_put (D := G) (ci := 1) (v := .int (lst L1)) (ty := .int) (C := RX1) (T := TX1) (N := 7) hx hb hts iX1_makeRoom_X1 tyX1 tyX1_ok nmX1 hown hK hP hD hS 0 rfl rfl 6 (by decide) (hts (.fieldLink RX1 36 "GhostPantry$Shelves" "leaver" "I") (by decide +kernel)) (fun _ h9 => h9) rfl (by decide +kernel) rfl rfl (Nat.le_of_ble_eq_true rfl) dX1_makeRoom_118 (fun H_71 locs hP1 hD1 hS1 => ?_)
            clear hP hD hS
            have hP : va_P G vwCl [(sh, .inr (1, [.ref r1, .ref r2, .ref r3, .ref r4, .int (nI rc), .int (nI bo), .int (lst L1)])), (r3, .inr (0, [.ref j3, .int (nI L3.length)])), (j3, .inl (cI, 30, .inl f3)), (r4, .inr (0, [.ref j4, .int (nI L4.length)])), (j4, .inl (cI, 30, .inl f4)), (r2, .inr (0, [.ref j2, .int (nI L2.length)])), (j2, .inl (cI, 30, .inl f2)), (r1, .inr (0, [.ref j1, .int (nI L1.dropLast.length)])), (j1, .inl (cI, 30, .inl f_66))] H_71 := hP1
            have hD : va_D A [(sh, .inr (1, [.ref r1, .ref r2, .ref r3, .ref r4, .int (nI rc), .int (nI bo), .int (lst L1)])), (r3, .inr (0, [.ref j3, .int (nI L3.length)])), (j3, .inl (cI, 30, .inl f3)), (r4, .inr (0, [.ref j4, .int (nI L4.length)])), (j4, .inl (cI, 30, .inl f4)), (r2, .inr (0, [.ref j2, .int (nI L2.length)])), (j2, .inl (cI, 30, .inl f2)), (r1, .inr (0, [.ref j1, .int (nI L1.dropLast.length)])), (j1, .inl (cI, 30, .inl f_66))] := hD1
            have hS := hS1
            clear hP1 hD1 hS1
            refine lv_aload_n hx hb dX1_makeRoom_121 rfl (lv_at hl 5 rfl) ?_
            refine va_get (D := G) (ci := 1) (v := .int (lst L1)) (C := RX1) (T := TX1) (N := 7) hx hb hts iX1_makeRoom_X1 hown hK hP 0 rfl rfl 6 (by decide) (hts (.fieldLink RX1 36 "GhostPantry$Shelves" "leaver" "I") (by decide +kernel)) (fun _ h9 => h9) rfl dX1_makeRoom_122 ?_
            refine lv_iconst (v := (-1)) hx hb dX1_makeRoom_125 (by decide +kernel) ?_
            refine lv_icmp_eq (tgt := 138) hx hb dX1_makeRoom_126 (by decide) (fun c_72 => False.elim (by exact ok_ne (ok_lst hj1 (by omega)) c_72)) (fun c_72 => ?_)
            refine lv_aload hx hb dX1_makeRoom_129 (lv_at hl 0 rfl) ?_
            refine lv_aload_n hx hb dX1_makeRoom_131 rfl (lv_at hl 5 rfl) ?_
            refine va_get (D := G) (ci := 1) (v := .int (lst L1)) (C := RX1) (T := TX1) (N := 7) hx hb hts iX1_makeRoom_X1 hown hK hP 0 rfl rfl 6 (by decide) (hts (.fieldLink RX1 36 "GhostPantry$Shelves" "leaver" "I") (by decide +kernel)) (fun _ h9 => h9) rfl dX1_makeRoom_132 ?_
            have hPc := hP.sub (ws' := [(r3, .inr (0, [.ref j3, .int (nI L3.length)])), (j3, .inl (cI, 30, .inl f3))]) [1, 2] rfl
            have hDc := hD.sub (ws' := [(r3, .inr (0, [.ref j3, .int (nI L3.length)])), (j3, .inl (cI, 30, .inl f3))]) [1, 2] (by decide) rfl
            have hKc := hK.sub (tys' := [(cI, .int)]) [0] rfl
            have hFc := va_free (wc := [(r3, .inr (0, [.ref j3, .int (nI L3.length)])), (j3, .inl (cI, 30, .inl f3))]) hD hS hA [1, 2] rfl
            refine va_callv (va_runV (As := [.int (lst L1)]) (rest := []) ⟨hx, hb, hml, hown, hts⟩ (c_X0_putFirst l G cI r3 j3 f3 L3 hR3 (by omega) (lst L1) (by omega) H_71.size) (cwV 1 hts gX1_makeRoom_X0_putFirst rfl rfl rfl (by decide +kernel) ⟨Nat.le_of_ble_eq_true rfl, Nat.le_of_ble_eq_true rfl⟩) (g_preV (As := [.int (lst L1)]) hPc hKc hDc 0 rfl rfl) rfl rfl hl.1 rfl (lv_room (Nat.le_of_ble_eq_true rfl)) dX1_makeRoom_135 ⟨(Nat.le_of_ble_eq_true rfl), (Nat.le_of_ble_eq_true rfl)⟩) hS (fun q _ h => hFc q h) hFc (fun u_77 t H_75 locs ht hvm hw hB hz1 hk1 hS1 => ?_)
            obtain ⟨f_73, hf_74, hB⟩ := hB
            obtain ⟨hP1, hD1⟩ := g_join (wc := [(r3, .inr (0, [.ref j3, .int (nI L3.length)])), (j3, .inl (cI, 30, .inl f3))]) (wr := [(sh, .inr (1, [.ref r1, .ref r2, .ref r3, .ref r4, .int (nI rc), .int (nI bo), .int (lst L1)])), (r4, .inr (0, [.ref j4, .int (nI L4.length)])), (j4, .inl (cI, 30, .inl f4)), (r2, .inr (0, [.ref j2, .int (nI L2.length)])), (j2, .inl (cI, 30, .inl f2)), (r1, .inr (0, [.ref j1, .int (nI L1.dropLast.length)])), (j1, .inl (cI, 30, .inl f_66))]) (w1 := [(r3, .inr (0, [.ref j3, .int (nI (((lst L1) :: L3).length))])), (j3, .inl (cI, 30, .inl f_73))]) hP hD [1, 2] [0, 3, 4, 5, 6, 7, 8] rfl rfl (by decide) (by decide) ht hk1 hFc hB
            clear hB hk1 hz1 hvm ht hPc hDc hKc hFc
            clear hP hD hS
            have hP : va_P G vwCl [(sh, .inr (1, [.ref r1, .ref r2, .ref r3, .ref r4, .int (nI rc), .int (nI bo), .int (lst L1)])), (r4, .inr (0, [.ref j4, .int (nI L4.length)])), (j4, .inl (cI, 30, .inl f4)), (r2, .inr (0, [.ref j2, .int (nI L2.length)])), (j2, .inl (cI, 30, .inl f2)), (r1, .inr (0, [.ref j1, .int (nI L1.dropLast.length)])), (j1, .inl (cI, 30, .inl f_66)), (r3, .inr (0, [.ref j3, .int (nI (((lst L1) :: L3).length))])), (j3, .inl (cI, 30, .inl f_73))] H_75 := hP1
            have hD : va_D A [(sh, .inr (1, [.ref r1, .ref r2, .ref r3, .ref r4, .int (nI rc), .int (nI bo), .int (lst L1)])), (r4, .inr (0, [.ref j4, .int (nI L4.length)])), (j4, .inl (cI, 30, .inl f4)), (r2, .inr (0, [.ref j2, .int (nI L2.length)])), (j2, .inl (cI, 30, .inl f2)), (r1, .inr (0, [.ref j1, .int (nI L1.dropLast.length)])), (j1, .inl (cI, 30, .inl f_66)), (r3, .inr (0, [.ref j3, .int (nI (((lst L1) :: L3).length))])), (j3, .inl (cI, 30, .inl f_73))] := hD1
            have hS := hS1
            clear hP1 hD1 hS1
            have hP9 := hP.sub (ws' := [(sh, .inr (1, [.ref r1, .ref r2, .ref r3, .ref r4, .int (nI rc), .int (nI bo), .int (lst L1)])), (r1, .inr (0, [.ref j1, .int (nI L1.dropLast.length)])), (j1, .inl (cI, 30, .inl f_66)), (r2, .inr (0, [.ref j2, .int (nI L2.length)])), (j2, .inl (cI, 30, .inl f2)), (r3, .inr (0, [.ref j3, .int (nI (((lst L1) :: L3).length))])), (j3, .inl (cI, 30, .inl f_73)), (r4, .inr (0, [.ref j4, .int (nI L4.length)])), (j4, .inl (cI, 30, .inl f4))]) [0, 5, 6, 3, 4, 7, 8, 1, 2] rfl
            have hD9 := hD.sub (ws' := [(sh, .inr (1, [.ref r1, .ref r2, .ref r3, .ref r4, .int (nI rc), .int (nI bo), .int (lst L1)])), (r1, .inr (0, [.ref j1, .int (nI L1.dropLast.length)])), (j1, .inl (cI, 30, .inl f_66)), (r2, .inr (0, [.ref j2, .int (nI L2.length)])), (j2, .inl (cI, 30, .inl f2)), (r3, .inr (0, [.ref j3, .int (nI (((lst L1) :: L3).length))])), (j3, .inl (cI, 30, .inl f_73)), (r4, .inr (0, [.ref j4, .int (nI L4.length)])), (j4, .inl (cI, 30, .inl f4))]) [0, 5, 6, 3, 4, 7, 8, 1, 2] (by decide) rfl
            exact W.vret hx hb hr (fun t ht hW => ⟨⟨((L1.dropLast, L2, ((lst L1) :: L3), L4), (lst L1)), rfl, (room_b (by omega) (by omega) (Or.inr (by omega)) lv), _, _, _, _, hf_67, hR2, hf_74, hR4, g_at hP9 hK hD9 ht hW⟩, hS.F ht⟩) hS.2.2 dX1_makeRoom_138
      · have hff : ff = true := ff_t c_25
        refine lv_iload_n hx hb dX1_makeRoom_37 rfl (lv_at hl 0 rfl) ?_
        refine lv_aload_n hx hb dX1_makeRoom_38 rfl (lv_at hl 1 rfl) ?_
        refine va_get (D := G) (ci := 1) (v := .int (nI bo)) (C := RX1) (T := TX1) (N := 7) hx hb hts iX1_makeRoom_X1 hown hK hP 0 rfl rfl 5 (by decide) (hts (.fieldLink RX1 33 "GhostPantry$Shelves" "border" "I") (by decide +kernel)) (fun _ h9 => h9) rfl dX1_makeRoom_39 ?_
        refine g_icmp_ne (tgt := 49) hx hb dX1_makeRoom_42 (by decide) (by omega) (by omega) (fun c_78 => ?_) (fun c_78 => ?_)
        · refine lv_iconst (v := (nI 0)) hx hb dX1_makeRoom_49 (by decide +kernel) ?_
          refine lv_istore_n (lv' := [(3, .int (nI 0)), (2, .int (nI L1.length)), (0, .ref sh), (1, .int (nI ff.toNat))]) hx hb dX1_makeRoom_50 rfl hl (by decide) rfl (fun ls hl => ?_)
          refine lv_iload_n hx hb dX1_makeRoom_51 rfl (lv_at hl 1 rfl) ?_
          refine g_if_le (tgt := 59) hx hb dX1_makeRoom_52 (by decide) (by omega) (fun c_79 => ?_) (fun c_79 => ?_)
          · refine lv_aload_n hx hb dX1_makeRoom_59 rfl (lv_at hl 2 rfl) ?_
            refine va_get (D := G) (ci := 1) (v := .ref r2) (C := RX1) (T := TX1) (N := 7) hx hb hts iX1_makeRoom_X1 hown hK hP 0 rfl rfl 1 (by decide) (hts (.fieldLink RX1 20 "GhostPantry$Shelves" "frequent" "LGhostPantry$Row;") (by decide +kernel)) (fun _ h9 => h9) rfl dX1_makeRoom_60 ?_
            have hPc := hP.sub (ws' := [(r2, .inr (0, [.ref j2, .int (nI L2.length)])), (j2, .inl (cI, 30, .inl f2))]) [7, 8] rfl
            have hDc := hD.sub (ws' := [(r2, .inr (0, [.ref j2, .int (nI L2.length)])), (j2, .inl (cI, 30, .inl f2))]) [7, 8] (by decide) rfl
            have hKc := hK.sub (tys' := [(cI, .int)]) [0] rfl
            have hFc := va_free (wc := [(r2, .inr (0, [.ref j2, .int (nI L2.length)])), (j2, .inl (cI, 30, .inl f2))]) hD hS hA [7, 8] rfl
            refine va_calli (va_runV (As := []) (rest := []) ⟨hx, hb, hml, hown, hts⟩ (c_X0_length l G cI r2 j2 f2 L2 hR2 (by omega)  H_4.size) (cwV 0 hts gX1_makeRoom_X0_length rfl rfl rfl (by decide +kernel) ⟨Nat.le_of_ble_eq_true rfl, Nat.le_of_ble_eq_true rfl⟩) (g_preV (As := []) hPc hKc hDc 0 rfl rfl) rfl rfl hl.1 rfl (lv_room (Nat.le_of_ble_eq_true rfl)) dX1_makeRoom_63 ⟨(Nat.le_of_ble_eq_true rfl), (Nat.le_of_ble_eq_true rfl)⟩) hS (fun q _ h => hFc q h) hFc (fun r_81 u_82 t H_80 locs ht hvm hw hB hz1 hk1 hS1 => ?_)
            subst hw
            obtain ⟨hP1, hD1⟩ := g_join (wc := [(r2, .inr (0, [.ref j2, .int (nI L2.length)])), (j2, .inl (cI, 30, .inl f2))]) (wr := [(sh, .inr (1, [.ref r1, .ref r2, .ref r3, .ref r4, .int (nI rc), .int (nI bo), .int lv])), (r3, .inr (0, [.ref j3, .int (nI L3.length)])), (j3, .inl (cI, 30, .inl f3)), (r4, .inr (0, [.ref j4, .int (nI L4.length)])), (j4, .inl (cI, 30, .inl f4)), (r1, .inr (0, [.ref j1, .int (nI L1.length)])), (j1, .inl (cI, 30, .inl f1))]) (w1 := [(r2, .inr (0, [.ref j2, .int (nI L2.length)])), (j2, .inl (cI, 30, .inl f2))]) hP hD [7, 8] [0, 1, 2, 3, 4, 5, 6] rfl rfl (by decide) (by decide) ht hk1 hFc hB
            clear hB hk1 hz1 hvm ht hPc hDc hKc hFc
            clear hP hD hS
            have hP : va_P G vwCl [(sh, .inr (1, [.ref r1, .ref r2, .ref r3, .ref r4, .int (nI rc), .int (nI bo), .int lv])), (r3, .inr (0, [.ref j3, .int (nI L3.length)])), (j3, .inl (cI, 30, .inl f3)), (r4, .inr (0, [.ref j4, .int (nI L4.length)])), (j4, .inl (cI, 30, .inl f4)), (r1, .inr (0, [.ref j1, .int (nI L1.length)])), (j1, .inl (cI, 30, .inl f1)), (r2, .inr (0, [.ref j2, .int (nI L2.length)])), (j2, .inl (cI, 30, .inl f2))] H_80 := hP1
            have hD : va_D A [(sh, .inr (1, [.ref r1, .ref r2, .ref r3, .ref r4, .int (nI rc), .int (nI bo), .int lv])), (r3, .inr (0, [.ref j3, .int (nI L3.length)])), (j3, .inl (cI, 30, .inl f3)), (r4, .inr (0, [.ref j4, .int (nI L4.length)])), (j4, .inl (cI, 30, .inl f4)), (r1, .inr (0, [.ref j1, .int (nI L1.length)])), (j1, .inl (cI, 30, .inl f1)), (r2, .inr (0, [.ref j2, .int (nI L2.length)])), (j2, .inl (cI, 30, .inl f2))] := hD1
            have hS := hS1
            clear hP1 hD1 hS1
            refine g_if_ne (tgt := 73) hx hb dX1_makeRoom_66 (by decide) (by omega) (fun c_83 => ?_) (fun c_83 => False.elim (by omega))
            refine lv_iconst (v := (nI 0)) hx hb dX1_makeRoom_73 (by decide +kernel) ?_
            refine lv_istore (lv' := [(4, .int (nI 0)), (3, .int (nI 0)), (2, .int (nI L1.length)), (0, .ref sh), (1, .int (nI ff.toNat))]) hx hb dX1_makeRoom_74 hl (by decide) rfl (fun ls hl => ?_)
            refine lv_iload hx hb dX1_makeRoom_76 (lv_at hl 0 rfl) ?_
            refine g_if_eq (tgt := 88) hx hb dX1_makeRoom_78 (by decide) (by decide) (fun c_84 => ?_) (fun c_84 => False.elim (by omega))
            refine lv_aload_n hx hb dX1_makeRoom_88 rfl (lv_at hl 3 rfl) ?_
            refine va_get (D := G) (ci := 1) (v := .ref r2) (C := RX1) (T := TX1) (N := 7) hx hb hts iX1_makeRoom_X1 hown hK hP 0 rfl rfl 1 (by decide) (hts (.fieldLink RX1 20 "GhostPantry$Shelves" "frequent" "LGhostPantry$Row;") (by decide +kernel)) (fun _ h9 => h9) rfl dX1_makeRoom_89 ?_
            refine lv_astore (lv' := [(5, .ref r2), (4, .int (nI 0)), (3, .int (nI 0)), (2, .int (nI L1.length)), (0, .ref sh), (1, .int (nI ff.toNat))]) hx hb dX1_makeRoom_92 hl (by decide) rfl (fun ls hl => ?_)
            refine lv_iload hx hb dX1_makeRoom_94 (lv_at hl 1 rfl) ?_
            refine g_if_eq (tgt := 106) hx hb dX1_makeRoom_96 (by decide) (by decide) (fun c_85 => ?_) (fun c_85 => False.elim (by omega))
            refine lv_aload_n hx hb dX1_makeRoom_106 rfl (lv_at hl 4 rfl) ?_
            refine va_get (D := G) (ci := 1) (v := .ref r4) (C := RX1) (T := TX1) (N := 7) hx hb hts iX1_makeRoom_X1 hown hK hP 0 rfl rfl 3 (by decide) (hts (.fieldLink RX1 26 "GhostPantry$Shelves" "frequentGhosts" "LGhostPantry$Row;") (by decide +kernel)) (fun _ h9 => h9) rfl dX1_makeRoom_107 ?_
            refine lv_astore (lv' := [(6, .ref r4), (5, .ref r2), (4, .int (nI 0)), (3, .int (nI 0)), (2, .int (nI L1.length)), (0, .ref sh), (1, .int (nI ff.toNat))]) hx hb dX1_makeRoom_110 hl (by decide) rfl (fun ls hl => ?_)
            refine lv_aload_n hx hb dX1_makeRoom_112 rfl (lv_at hl 5 rfl) ?_
            refine lv_aload hx hb dX1_makeRoom_113 (lv_at hl 1 rfl) ?_
            have hPc := hP.sub (ws' := [(r2, .inr (0, [.ref j2, .int (nI L2.length)])), (j2, .inl (cI, 30, .inl f2))]) [7, 8] rfl
            have hDc := hD.sub (ws' := [(r2, .inr (0, [.ref j2, .int (nI L2.length)])), (j2, .inl (cI, 30, .inl f2))]) [7, 8] (by decide) rfl
            have hKc := hK.sub (tys' := [(cI, .int)]) [0] rfl
            have hFc := va_free (wc := [(r2, .inr (0, [.ref j2, .int (nI L2.length)])), (j2, .inl (cI, 30, .inl f2))]) hD hS hA [7, 8] rfl
            refine va_calli (va_runV (As := []) (rest := [.ref sh]) ⟨hx, hb, hml, hown, hts⟩ (c_X0_takeLast l G cI r2 j2 f2 L2 hR2 (by omega) (by omega) H_80.size) (cwV 0 hts gX1_makeRoom_X0_takeLast rfl rfl rfl (by decide +kernel) ⟨Nat.le_of_ble_eq_true rfl, Nat.le_of_ble_eq_true rfl⟩) (g_preV (As := []) hPc hKc hDc 0 rfl rfl) rfl rfl hl.1 rfl (lv_room (Nat.le_of_ble_eq_true rfl)) dX1_makeRoom_115 ⟨(Nat.le_of_ble_eq_true rfl), (Nat.le_of_ble_eq_true rfl)⟩) hS (fun q _ h => hFc q h) hFc (fun r_89 u_90 t H_88 locs ht hvm hw hB hz1 hk1 hS1 => ?_)
            subst hw
            obtain ⟨f_86, hf_87, hB⟩ := hB
            obtain ⟨hP1, hD1⟩ := g_join (wc := [(r2, .inr (0, [.ref j2, .int (nI L2.length)])), (j2, .inl (cI, 30, .inl f2))]) (wr := [(sh, .inr (1, [.ref r1, .ref r2, .ref r3, .ref r4, .int (nI rc), .int (nI bo), .int lv])), (r3, .inr (0, [.ref j3, .int (nI L3.length)])), (j3, .inl (cI, 30, .inl f3)), (r4, .inr (0, [.ref j4, .int (nI L4.length)])), (j4, .inl (cI, 30, .inl f4)), (r1, .inr (0, [.ref j1, .int (nI L1.length)])), (j1, .inl (cI, 30, .inl f1))]) (w1 := [(r2, .inr (0, [.ref j2, .int (nI L2.dropLast.length)])), (j2, .inl (cI, 30, .inl f_86))]) hP hD [7, 8] [0, 1, 2, 3, 4, 5, 6] rfl rfl (by decide) (by decide) ht hk1 hFc hB
            clear hB hk1 hz1 hvm ht hPc hDc hKc hFc
            clear hP hD hS
            have hP : va_P G vwCl [(sh, .inr (1, [.ref r1, .ref r2, .ref r3, .ref r4, .int (nI rc), .int (nI bo), .int lv])), (r3, .inr (0, [.ref j3, .int (nI L3.length)])), (j3, .inl (cI, 30, .inl f3)), (r4, .inr (0, [.ref j4, .int (nI L4.length)])), (j4, .inl (cI, 30, .inl f4)), (r1, .inr (0, [.ref j1, .int (nI L1.length)])), (j1, .inl (cI, 30, .inl f1)), (r2, .inr (0, [.ref j2, .int (nI L2.dropLast.length)])), (j2, .inl (cI, 30, .inl f_86))] H_88 := hP1
            have hD : va_D A [(sh, .inr (1, [.ref r1, .ref r2, .ref r3, .ref r4, .int (nI rc), .int (nI bo), .int lv])), (r3, .inr (0, [.ref j3, .int (nI L3.length)])), (j3, .inl (cI, 30, .inl f3)), (r4, .inr (0, [.ref j4, .int (nI L4.length)])), (j4, .inl (cI, 30, .inl f4)), (r1, .inr (0, [.ref j1, .int (nI L1.length)])), (j1, .inl (cI, 30, .inl f1)), (r2, .inr (0, [.ref j2, .int (nI L2.dropLast.length)])), (j2, .inl (cI, 30, .inl f_86))] := hD1
            have hS := hS1
            clear hP1 hD1 hS1
            refine va_put (D := G) (ci := 1) (v := .int (lst L2)) (ty := .int) (C := RX1) (T := TX1) (N := 7) hx hb hts iX1_makeRoom_X1 tyX1 tyX1_ok nmX1 hown hK hP hD hS 0 rfl rfl 6 (by decide) (hts (.fieldLink RX1 36 "GhostPantry$Shelves" "leaver" "I") (by decide +kernel)) (fun _ h9 => h9) rfl (by decide +kernel) rfl rfl (Nat.le_of_ble_eq_true rfl) dX1_makeRoom_118 (fun H_91 locs hP1 hD1 hS1 => ?_)
            clear hP hD hS
            have hP : va_P G vwCl [(sh, .inr (1, [.ref r1, .ref r2, .ref r3, .ref r4, .int (nI rc), .int (nI bo), .int (lst L2)])), (r3, .inr (0, [.ref j3, .int (nI L3.length)])), (j3, .inl (cI, 30, .inl f3)), (r4, .inr (0, [.ref j4, .int (nI L4.length)])), (j4, .inl (cI, 30, .inl f4)), (r1, .inr (0, [.ref j1, .int (nI L1.length)])), (j1, .inl (cI, 30, .inl f1)), (r2, .inr (0, [.ref j2, .int (nI L2.dropLast.length)])), (j2, .inl (cI, 30, .inl f_86))] H_91 := hP1
            have hD : va_D A [(sh, .inr (1, [.ref r1, .ref r2, .ref r3, .ref r4, .int (nI rc), .int (nI bo), .int (lst L2)])), (r3, .inr (0, [.ref j3, .int (nI L3.length)])), (j3, .inl (cI, 30, .inl f3)), (r4, .inr (0, [.ref j4, .int (nI L4.length)])), (j4, .inl (cI, 30, .inl f4)), (r1, .inr (0, [.ref j1, .int (nI L1.length)])), (j1, .inl (cI, 30, .inl f1)), (r2, .inr (0, [.ref j2, .int (nI L2.dropLast.length)])), (j2, .inl (cI, 30, .inl f_86))] := hD1
            have hS := hS1
            clear hP1 hD1 hS1
            refine lv_aload_n hx hb dX1_makeRoom_121 rfl (lv_at hl 5 rfl) ?_
            refine va_get (D := G) (ci := 1) (v := .int (lst L2)) (C := RX1) (T := TX1) (N := 7) hx hb hts iX1_makeRoom_X1 hown hK hP 0 rfl rfl 6 (by decide) (hts (.fieldLink RX1 36 "GhostPantry$Shelves" "leaver" "I") (by decide +kernel)) (fun _ h9 => h9) rfl dX1_makeRoom_122 ?_
            refine lv_iconst (v := (-1)) hx hb dX1_makeRoom_125 (by decide +kernel) ?_
            refine lv_icmp_eq (tgt := 138) hx hb dX1_makeRoom_126 (by decide) (fun c_92 => False.elim (by exact ok_ne (ok_lst hj2 (by omega)) c_92)) (fun c_92 => ?_)
            refine lv_aload hx hb dX1_makeRoom_129 (lv_at hl 0 rfl) ?_
            refine lv_aload_n hx hb dX1_makeRoom_131 rfl (lv_at hl 5 rfl) ?_
            refine va_get (D := G) (ci := 1) (v := .int (lst L2)) (C := RX1) (T := TX1) (N := 7) hx hb hts iX1_makeRoom_X1 hown hK hP 0 rfl rfl 6 (by decide) (hts (.fieldLink RX1 36 "GhostPantry$Shelves" "leaver" "I") (by decide +kernel)) (fun _ h9 => h9) rfl dX1_makeRoom_132 ?_
            have hPc := hP.sub (ws' := [(r4, .inr (0, [.ref j4, .int (nI L4.length)])), (j4, .inl (cI, 30, .inl f4))]) [3, 4] rfl
            have hDc := hD.sub (ws' := [(r4, .inr (0, [.ref j4, .int (nI L4.length)])), (j4, .inl (cI, 30, .inl f4))]) [3, 4] (by decide) rfl
            have hKc := hK.sub (tys' := [(cI, .int)]) [0] rfl
            have hFc := va_free (wc := [(r4, .inr (0, [.ref j4, .int (nI L4.length)])), (j4, .inl (cI, 30, .inl f4))]) hD hS hA [3, 4] rfl
            refine va_callv (va_runV (As := [.int (lst L2)]) (rest := []) ⟨hx, hb, hml, hown, hts⟩ (c_X0_putFirst l G cI r4 j4 f4 L4 hR4 (by omega) (lst L2) (by omega) H_91.size) (cwV 1 hts gX1_makeRoom_X0_putFirst rfl rfl rfl (by decide +kernel) ⟨Nat.le_of_ble_eq_true rfl, Nat.le_of_ble_eq_true rfl⟩) (g_preV (As := [.int (lst L2)]) hPc hKc hDc 0 rfl rfl) rfl rfl hl.1 rfl (lv_room (Nat.le_of_ble_eq_true rfl)) dX1_makeRoom_135 ⟨(Nat.le_of_ble_eq_true rfl), (Nat.le_of_ble_eq_true rfl)⟩) hS (fun q _ h => hFc q h) hFc (fun u_97 t H_95 locs ht hvm hw hB hz1 hk1 hS1 => ?_)
            obtain ⟨f_93, hf_94, hB⟩ := hB
            obtain ⟨hP1, hD1⟩ := g_join (wc := [(r4, .inr (0, [.ref j4, .int (nI L4.length)])), (j4, .inl (cI, 30, .inl f4))]) (wr := [(sh, .inr (1, [.ref r1, .ref r2, .ref r3, .ref r4, .int (nI rc), .int (nI bo), .int (lst L2)])), (r3, .inr (0, [.ref j3, .int (nI L3.length)])), (j3, .inl (cI, 30, .inl f3)), (r1, .inr (0, [.ref j1, .int (nI L1.length)])), (j1, .inl (cI, 30, .inl f1)), (r2, .inr (0, [.ref j2, .int (nI L2.dropLast.length)])), (j2, .inl (cI, 30, .inl f_86))]) (w1 := [(r4, .inr (0, [.ref j4, .int (nI (((lst L2) :: L4).length))])), (j4, .inl (cI, 30, .inl f_93))]) hP hD [3, 4] [0, 1, 2, 5, 6, 7, 8] rfl rfl (by decide) (by decide) ht hk1 hFc hB
            clear hB hk1 hz1 hvm ht hPc hDc hKc hFc
            clear hP hD hS
            have hP : va_P G vwCl [(sh, .inr (1, [.ref r1, .ref r2, .ref r3, .ref r4, .int (nI rc), .int (nI bo), .int (lst L2)])), (r3, .inr (0, [.ref j3, .int (nI L3.length)])), (j3, .inl (cI, 30, .inl f3)), (r1, .inr (0, [.ref j1, .int (nI L1.length)])), (j1, .inl (cI, 30, .inl f1)), (r2, .inr (0, [.ref j2, .int (nI L2.dropLast.length)])), (j2, .inl (cI, 30, .inl f_86)), (r4, .inr (0, [.ref j4, .int (nI (((lst L2) :: L4).length))])), (j4, .inl (cI, 30, .inl f_93))] H_95 := hP1
            have hD : va_D A [(sh, .inr (1, [.ref r1, .ref r2, .ref r3, .ref r4, .int (nI rc), .int (nI bo), .int (lst L2)])), (r3, .inr (0, [.ref j3, .int (nI L3.length)])), (j3, .inl (cI, 30, .inl f3)), (r1, .inr (0, [.ref j1, .int (nI L1.length)])), (j1, .inl (cI, 30, .inl f1)), (r2, .inr (0, [.ref j2, .int (nI L2.dropLast.length)])), (j2, .inl (cI, 30, .inl f_86)), (r4, .inr (0, [.ref j4, .int (nI (((lst L2) :: L4).length))])), (j4, .inl (cI, 30, .inl f_93))] := hD1
            have hS := hS1
            clear hP1 hD1 hS1
            have hP9 := hP.sub (ws' := [(sh, .inr (1, [.ref r1, .ref r2, .ref r3, .ref r4, .int (nI rc), .int (nI bo), .int (lst L2)])), (r1, .inr (0, [.ref j1, .int (nI L1.length)])), (j1, .inl (cI, 30, .inl f1)), (r2, .inr (0, [.ref j2, .int (nI L2.dropLast.length)])), (j2, .inl (cI, 30, .inl f_86)), (r3, .inr (0, [.ref j3, .int (nI L3.length)])), (j3, .inl (cI, 30, .inl f3)), (r4, .inr (0, [.ref j4, .int (nI (((lst L2) :: L4).length))])), (j4, .inl (cI, 30, .inl f_93))]) [0, 3, 4, 5, 6, 1, 2, 7, 8] rfl
            have hD9 := hD.sub (ws' := [(sh, .inr (1, [.ref r1, .ref r2, .ref r3, .ref r4, .int (nI rc), .int (nI bo), .int (lst L2)])), (r1, .inr (0, [.ref j1, .int (nI L1.length)])), (j1, .inl (cI, 30, .inl f1)), (r2, .inr (0, [.ref j2, .int (nI L2.dropLast.length)])), (j2, .inl (cI, 30, .inl f_86)), (r3, .inr (0, [.ref j3, .int (nI L3.length)])), (j3, .inl (cI, 30, .inl f3)), (r4, .inr (0, [.ref j4, .int (nI (((lst L2) :: L4).length))])), (j4, .inl (cI, 30, .inl f_93))]) [0, 3, 4, 5, 6, 1, 2, 7, 8] (by decide) rfl
            exact W.vret hx hb hr (fun t ht hW => ⟨⟨((L1, L2.dropLast, L3, ((lst L2) :: L4)), (lst L2)), rfl, (room_c (by omega) (fun z => by rcases z with ⟨z1, (z2 | ⟨z2, z3⟩) | z2⟩ <;> first | omega | (exact absurd z3 (by rw [hff]; decide))) lv), _, _, _, _, hR1, hf_87, hR3, hf_94, g_at hP9 hK hD9 ht hW⟩, hS.F ht⟩) hS.2.2 dX1_makeRoom_138
          · refine lv_iload_n hx hb dX1_makeRoom_55 rfl (lv_at hl 0 rfl) ?_
            refine g_if_ne (tgt := 69) hx hb dX1_makeRoom_56 (by decide) (by decide) (fun c_98 => False.elim (by omega)) (fun c_98 => ?_)
            refine lv_aload_n hx hb dX1_makeRoom_59 rfl (lv_at hl 2 rfl) ?_
            refine va_get (D := G) (ci := 1) (v := .ref r2) (C := RX1) (T := TX1) (N := 7) hx hb hts iX1_makeRoom_X1 hown hK hP 0 rfl rfl 1 (by decide) (hts (.fieldLink RX1 20 "GhostPantry$Shelves" "frequent" "LGhostPantry$Row;") (by decide +kernel)) (fun _ h9 => h9) rfl dX1_makeRoom_60 ?_
            have hPc := hP.sub (ws' := [(r2, .inr (0, [.ref j2, .int (nI L2.length)])), (j2, .inl (cI, 30, .inl f2))]) [7, 8] rfl
            have hDc := hD.sub (ws' := [(r2, .inr (0, [.ref j2, .int (nI L2.length)])), (j2, .inl (cI, 30, .inl f2))]) [7, 8] (by decide) rfl
            have hKc := hK.sub (tys' := [(cI, .int)]) [0] rfl
            have hFc := va_free (wc := [(r2, .inr (0, [.ref j2, .int (nI L2.length)])), (j2, .inl (cI, 30, .inl f2))]) hD hS hA [7, 8] rfl
            refine va_calli (va_runV (As := []) (rest := []) ⟨hx, hb, hml, hown, hts⟩ (c_X0_length l G cI r2 j2 f2 L2 hR2 (by omega)  H_4.size) (cwV 0 hts gX1_makeRoom_X0_length rfl rfl rfl (by decide +kernel) ⟨Nat.le_of_ble_eq_true rfl, Nat.le_of_ble_eq_true rfl⟩) (g_preV (As := []) hPc hKc hDc 0 rfl rfl) rfl rfl hl.1 rfl (lv_room (Nat.le_of_ble_eq_true rfl)) dX1_makeRoom_63 ⟨(Nat.le_of_ble_eq_true rfl), (Nat.le_of_ble_eq_true rfl)⟩) hS (fun q _ h => hFc q h) hFc (fun r_100 u_101 t H_99 locs ht hvm hw hB hz1 hk1 hS1 => ?_)
            subst hw
            obtain ⟨hP1, hD1⟩ := g_join (wc := [(r2, .inr (0, [.ref j2, .int (nI L2.length)])), (j2, .inl (cI, 30, .inl f2))]) (wr := [(sh, .inr (1, [.ref r1, .ref r2, .ref r3, .ref r4, .int (nI rc), .int (nI bo), .int lv])), (r3, .inr (0, [.ref j3, .int (nI L3.length)])), (j3, .inl (cI, 30, .inl f3)), (r4, .inr (0, [.ref j4, .int (nI L4.length)])), (j4, .inl (cI, 30, .inl f4)), (r1, .inr (0, [.ref j1, .int (nI L1.length)])), (j1, .inl (cI, 30, .inl f1))]) (w1 := [(r2, .inr (0, [.ref j2, .int (nI L2.length)])), (j2, .inl (cI, 30, .inl f2))]) hP hD [7, 8] [0, 1, 2, 3, 4, 5, 6] rfl rfl (by decide) (by decide) ht hk1 hFc hB
            clear hB hk1 hz1 hvm ht hPc hDc hKc hFc
            clear hP hD hS
            have hP : va_P G vwCl [(sh, .inr (1, [.ref r1, .ref r2, .ref r3, .ref r4, .int (nI rc), .int (nI bo), .int lv])), (r3, .inr (0, [.ref j3, .int (nI L3.length)])), (j3, .inl (cI, 30, .inl f3)), (r4, .inr (0, [.ref j4, .int (nI L4.length)])), (j4, .inl (cI, 30, .inl f4)), (r1, .inr (0, [.ref j1, .int (nI L1.length)])), (j1, .inl (cI, 30, .inl f1)), (r2, .inr (0, [.ref j2, .int (nI L2.length)])), (j2, .inl (cI, 30, .inl f2))] H_99 := hP1
            have hD : va_D A [(sh, .inr (1, [.ref r1, .ref r2, .ref r3, .ref r4, .int (nI rc), .int (nI bo), .int lv])), (r3, .inr (0, [.ref j3, .int (nI L3.length)])), (j3, .inl (cI, 30, .inl f3)), (r4, .inr (0, [.ref j4, .int (nI L4.length)])), (j4, .inl (cI, 30, .inl f4)), (r1, .inr (0, [.ref j1, .int (nI L1.length)])), (j1, .inl (cI, 30, .inl f1)), (r2, .inr (0, [.ref j2, .int (nI L2.length)])), (j2, .inl (cI, 30, .inl f2))] := hD1
            have hS := hS1
            clear hP1 hD1 hS1
            refine g_if_ne (tgt := 73) hx hb dX1_makeRoom_66 (by decide) (by omega) (fun c_102 => ?_) (fun c_102 => ?_)
            · refine lv_iconst (v := (nI 0)) hx hb dX1_makeRoom_73 (by decide +kernel) ?_
              refine lv_istore (lv' := [(4, .int (nI 0)), (3, .int (nI 0)), (2, .int (nI L1.length)), (0, .ref sh), (1, .int (nI ff.toNat))]) hx hb dX1_makeRoom_74 hl (by decide) rfl (fun ls hl => ?_)
              refine lv_iload hx hb dX1_makeRoom_76 (lv_at hl 0 rfl) ?_
              refine g_if_eq (tgt := 88) hx hb dX1_makeRoom_78 (by decide) (by decide) (fun c_103 => ?_) (fun c_103 => False.elim (by omega))
              refine lv_aload_n hx hb dX1_makeRoom_88 rfl (lv_at hl 3 rfl) ?_
              refine va_get (D := G) (ci := 1) (v := .ref r2) (C := RX1) (T := TX1) (N := 7) hx hb hts iX1_makeRoom_X1 hown hK hP 0 rfl rfl 1 (by decide) (hts (.fieldLink RX1 20 "GhostPantry$Shelves" "frequent" "LGhostPantry$Row;") (by decide +kernel)) (fun _ h9 => h9) rfl dX1_makeRoom_89 ?_
              refine lv_astore (lv' := [(5, .ref r2), (4, .int (nI 0)), (3, .int (nI 0)), (2, .int (nI L1.length)), (0, .ref sh), (1, .int (nI ff.toNat))]) hx hb dX1_makeRoom_92 hl (by decide) rfl (fun ls hl => ?_)
              refine lv_iload hx hb dX1_makeRoom_94 (lv_at hl 1 rfl) ?_
              refine g_if_eq (tgt := 106) hx hb dX1_makeRoom_96 (by decide) (by decide) (fun c_104 => ?_) (fun c_104 => False.elim (by omega))
              refine lv_aload_n hx hb dX1_makeRoom_106 rfl (lv_at hl 4 rfl) ?_
              refine va_get (D := G) (ci := 1) (v := .ref r4) (C := RX1) (T := TX1) (N := 7) hx hb hts iX1_makeRoom_X1 hown hK hP 0 rfl rfl 3 (by decide) (hts (.fieldLink RX1 26 "GhostPantry$Shelves" "frequentGhosts" "LGhostPantry$Row;") (by decide +kernel)) (fun _ h9 => h9) rfl dX1_makeRoom_107 ?_
              refine lv_astore (lv' := [(6, .ref r4), (5, .ref r2), (4, .int (nI 0)), (3, .int (nI 0)), (2, .int (nI L1.length)), (0, .ref sh), (1, .int (nI ff.toNat))]) hx hb dX1_makeRoom_110 hl (by decide) rfl (fun ls hl => ?_)
              refine lv_aload_n hx hb dX1_makeRoom_112 rfl (lv_at hl 5 rfl) ?_
              refine lv_aload hx hb dX1_makeRoom_113 (lv_at hl 1 rfl) ?_
              have hPc := hP.sub (ws' := [(r2, .inr (0, [.ref j2, .int (nI L2.length)])), (j2, .inl (cI, 30, .inl f2))]) [7, 8] rfl
              have hDc := hD.sub (ws' := [(r2, .inr (0, [.ref j2, .int (nI L2.length)])), (j2, .inl (cI, 30, .inl f2))]) [7, 8] (by decide) rfl
              have hKc := hK.sub (tys' := [(cI, .int)]) [0] rfl
              have hFc := va_free (wc := [(r2, .inr (0, [.ref j2, .int (nI L2.length)])), (j2, .inl (cI, 30, .inl f2))]) hD hS hA [7, 8] rfl
              refine va_calli (va_runV (As := []) (rest := [.ref sh]) ⟨hx, hb, hml, hown, hts⟩ (c_X0_takeLast l G cI r2 j2 f2 L2 hR2 (by omega) (by omega) H_99.size) (cwV 0 hts gX1_makeRoom_X0_takeLast rfl rfl rfl (by decide +kernel) ⟨Nat.le_of_ble_eq_true rfl, Nat.le_of_ble_eq_true rfl⟩) (g_preV (As := []) hPc hKc hDc 0 rfl rfl) rfl rfl hl.1 rfl (lv_room (Nat.le_of_ble_eq_true rfl)) dX1_makeRoom_115 ⟨(Nat.le_of_ble_eq_true rfl), (Nat.le_of_ble_eq_true rfl)⟩) hS (fun q _ h => hFc q h) hFc (fun r_108 u_109 t H_107 locs ht hvm hw hB hz1 hk1 hS1 => ?_)
              subst hw
              obtain ⟨f_105, hf_106, hB⟩ := hB
              obtain ⟨hP1, hD1⟩ := g_join (wc := [(r2, .inr (0, [.ref j2, .int (nI L2.length)])), (j2, .inl (cI, 30, .inl f2))]) (wr := [(sh, .inr (1, [.ref r1, .ref r2, .ref r3, .ref r4, .int (nI rc), .int (nI bo), .int lv])), (r3, .inr (0, [.ref j3, .int (nI L3.length)])), (j3, .inl (cI, 30, .inl f3)), (r4, .inr (0, [.ref j4, .int (nI L4.length)])), (j4, .inl (cI, 30, .inl f4)), (r1, .inr (0, [.ref j1, .int (nI L1.length)])), (j1, .inl (cI, 30, .inl f1))]) (w1 := [(r2, .inr (0, [.ref j2, .int (nI L2.dropLast.length)])), (j2, .inl (cI, 30, .inl f_105))]) hP hD [7, 8] [0, 1, 2, 3, 4, 5, 6] rfl rfl (by decide) (by decide) ht hk1 hFc hB
              clear hB hk1 hz1 hvm ht hPc hDc hKc hFc
              clear hP hD hS
              have hP : va_P G vwCl [(sh, .inr (1, [.ref r1, .ref r2, .ref r3, .ref r4, .int (nI rc), .int (nI bo), .int lv])), (r3, .inr (0, [.ref j3, .int (nI L3.length)])), (j3, .inl (cI, 30, .inl f3)), (r4, .inr (0, [.ref j4, .int (nI L4.length)])), (j4, .inl (cI, 30, .inl f4)), (r1, .inr (0, [.ref j1, .int (nI L1.length)])), (j1, .inl (cI, 30, .inl f1)), (r2, .inr (0, [.ref j2, .int (nI L2.dropLast.length)])), (j2, .inl (cI, 30, .inl f_105))] H_107 := hP1
              have hD : va_D A [(sh, .inr (1, [.ref r1, .ref r2, .ref r3, .ref r4, .int (nI rc), .int (nI bo), .int lv])), (r3, .inr (0, [.ref j3, .int (nI L3.length)])), (j3, .inl (cI, 30, .inl f3)), (r4, .inr (0, [.ref j4, .int (nI L4.length)])), (j4, .inl (cI, 30, .inl f4)), (r1, .inr (0, [.ref j1, .int (nI L1.length)])), (j1, .inl (cI, 30, .inl f1)), (r2, .inr (0, [.ref j2, .int (nI L2.dropLast.length)])), (j2, .inl (cI, 30, .inl f_105))] := hD1
              have hS := hS1
              clear hP1 hD1 hS1
              refine va_put (D := G) (ci := 1) (v := .int (lst L2)) (ty := .int) (C := RX1) (T := TX1) (N := 7) hx hb hts iX1_makeRoom_X1 tyX1 tyX1_ok nmX1 hown hK hP hD hS 0 rfl rfl 6 (by decide) (hts (.fieldLink RX1 36 "GhostPantry$Shelves" "leaver" "I") (by decide +kernel)) (fun _ h9 => h9) rfl (by decide +kernel) rfl rfl (Nat.le_of_ble_eq_true rfl) dX1_makeRoom_118 (fun H_110 locs hP1 hD1 hS1 => ?_)
              clear hP hD hS
              have hP : va_P G vwCl [(sh, .inr (1, [.ref r1, .ref r2, .ref r3, .ref r4, .int (nI rc), .int (nI bo), .int (lst L2)])), (r3, .inr (0, [.ref j3, .int (nI L3.length)])), (j3, .inl (cI, 30, .inl f3)), (r4, .inr (0, [.ref j4, .int (nI L4.length)])), (j4, .inl (cI, 30, .inl f4)), (r1, .inr (0, [.ref j1, .int (nI L1.length)])), (j1, .inl (cI, 30, .inl f1)), (r2, .inr (0, [.ref j2, .int (nI L2.dropLast.length)])), (j2, .inl (cI, 30, .inl f_105))] H_110 := hP1
              have hD : va_D A [(sh, .inr (1, [.ref r1, .ref r2, .ref r3, .ref r4, .int (nI rc), .int (nI bo), .int (lst L2)])), (r3, .inr (0, [.ref j3, .int (nI L3.length)])), (j3, .inl (cI, 30, .inl f3)), (r4, .inr (0, [.ref j4, .int (nI L4.length)])), (j4, .inl (cI, 30, .inl f4)), (r1, .inr (0, [.ref j1, .int (nI L1.length)])), (j1, .inl (cI, 30, .inl f1)), (r2, .inr (0, [.ref j2, .int (nI L2.dropLast.length)])), (j2, .inl (cI, 30, .inl f_105))] := hD1
              have hS := hS1
              clear hP1 hD1 hS1
              refine lv_aload_n hx hb dX1_makeRoom_121 rfl (lv_at hl 5 rfl) ?_
              refine va_get (D := G) (ci := 1) (v := .int (lst L2)) (C := RX1) (T := TX1) (N := 7) hx hb hts iX1_makeRoom_X1 hown hK hP 0 rfl rfl 6 (by decide) (hts (.fieldLink RX1 36 "GhostPantry$Shelves" "leaver" "I") (by decide +kernel)) (fun _ h9 => h9) rfl dX1_makeRoom_122 ?_
              refine lv_iconst (v := (-1)) hx hb dX1_makeRoom_125 (by decide +kernel) ?_
              refine lv_icmp_eq (tgt := 138) hx hb dX1_makeRoom_126 (by decide) (fun c_111 => False.elim (by exact ok_ne (ok_lst hj2 (by omega)) c_111)) (fun c_111 => ?_)
              refine lv_aload hx hb dX1_makeRoom_129 (lv_at hl 0 rfl) ?_
              refine lv_aload_n hx hb dX1_makeRoom_131 rfl (lv_at hl 5 rfl) ?_
              refine va_get (D := G) (ci := 1) (v := .int (lst L2)) (C := RX1) (T := TX1) (N := 7) hx hb hts iX1_makeRoom_X1 hown hK hP 0 rfl rfl 6 (by decide) (hts (.fieldLink RX1 36 "GhostPantry$Shelves" "leaver" "I") (by decide +kernel)) (fun _ h9 => h9) rfl dX1_makeRoom_132 ?_
              have hPc := hP.sub (ws' := [(r4, .inr (0, [.ref j4, .int (nI L4.length)])), (j4, .inl (cI, 30, .inl f4))]) [3, 4] rfl
              have hDc := hD.sub (ws' := [(r4, .inr (0, [.ref j4, .int (nI L4.length)])), (j4, .inl (cI, 30, .inl f4))]) [3, 4] (by decide) rfl
              have hKc := hK.sub (tys' := [(cI, .int)]) [0] rfl
              have hFc := va_free (wc := [(r4, .inr (0, [.ref j4, .int (nI L4.length)])), (j4, .inl (cI, 30, .inl f4))]) hD hS hA [3, 4] rfl
              refine va_callv (va_runV (As := [.int (lst L2)]) (rest := []) ⟨hx, hb, hml, hown, hts⟩ (c_X0_putFirst l G cI r4 j4 f4 L4 hR4 (by omega) (lst L2) (by omega) H_110.size) (cwV 1 hts gX1_makeRoom_X0_putFirst rfl rfl rfl (by decide +kernel) ⟨Nat.le_of_ble_eq_true rfl, Nat.le_of_ble_eq_true rfl⟩) (g_preV (As := [.int (lst L2)]) hPc hKc hDc 0 rfl rfl) rfl rfl hl.1 rfl (lv_room (Nat.le_of_ble_eq_true rfl)) dX1_makeRoom_135 ⟨(Nat.le_of_ble_eq_true rfl), (Nat.le_of_ble_eq_true rfl)⟩) hS (fun q _ h => hFc q h) hFc (fun u_116 t H_114 locs ht hvm hw hB hz1 hk1 hS1 => ?_)
              obtain ⟨f_112, hf_113, hB⟩ := hB
              obtain ⟨hP1, hD1⟩ := g_join (wc := [(r4, .inr (0, [.ref j4, .int (nI L4.length)])), (j4, .inl (cI, 30, .inl f4))]) (wr := [(sh, .inr (1, [.ref r1, .ref r2, .ref r3, .ref r4, .int (nI rc), .int (nI bo), .int (lst L2)])), (r3, .inr (0, [.ref j3, .int (nI L3.length)])), (j3, .inl (cI, 30, .inl f3)), (r1, .inr (0, [.ref j1, .int (nI L1.length)])), (j1, .inl (cI, 30, .inl f1)), (r2, .inr (0, [.ref j2, .int (nI L2.dropLast.length)])), (j2, .inl (cI, 30, .inl f_105))]) (w1 := [(r4, .inr (0, [.ref j4, .int (nI (((lst L2) :: L4).length))])), (j4, .inl (cI, 30, .inl f_112))]) hP hD [3, 4] [0, 1, 2, 5, 6, 7, 8] rfl rfl (by decide) (by decide) ht hk1 hFc hB
              clear hB hk1 hz1 hvm ht hPc hDc hKc hFc
              clear hP hD hS
              have hP : va_P G vwCl [(sh, .inr (1, [.ref r1, .ref r2, .ref r3, .ref r4, .int (nI rc), .int (nI bo), .int (lst L2)])), (r3, .inr (0, [.ref j3, .int (nI L3.length)])), (j3, .inl (cI, 30, .inl f3)), (r1, .inr (0, [.ref j1, .int (nI L1.length)])), (j1, .inl (cI, 30, .inl f1)), (r2, .inr (0, [.ref j2, .int (nI L2.dropLast.length)])), (j2, .inl (cI, 30, .inl f_105)), (r4, .inr (0, [.ref j4, .int (nI (((lst L2) :: L4).length))])), (j4, .inl (cI, 30, .inl f_112))] H_114 := hP1
              have hD : va_D A [(sh, .inr (1, [.ref r1, .ref r2, .ref r3, .ref r4, .int (nI rc), .int (nI bo), .int (lst L2)])), (r3, .inr (0, [.ref j3, .int (nI L3.length)])), (j3, .inl (cI, 30, .inl f3)), (r1, .inr (0, [.ref j1, .int (nI L1.length)])), (j1, .inl (cI, 30, .inl f1)), (r2, .inr (0, [.ref j2, .int (nI L2.dropLast.length)])), (j2, .inl (cI, 30, .inl f_105)), (r4, .inr (0, [.ref j4, .int (nI (((lst L2) :: L4).length))])), (j4, .inl (cI, 30, .inl f_112))] := hD1
              have hS := hS1
              clear hP1 hD1 hS1
              have hP9 := hP.sub (ws' := [(sh, .inr (1, [.ref r1, .ref r2, .ref r3, .ref r4, .int (nI rc), .int (nI bo), .int (lst L2)])), (r1, .inr (0, [.ref j1, .int (nI L1.length)])), (j1, .inl (cI, 30, .inl f1)), (r2, .inr (0, [.ref j2, .int (nI L2.dropLast.length)])), (j2, .inl (cI, 30, .inl f_105)), (r3, .inr (0, [.ref j3, .int (nI L3.length)])), (j3, .inl (cI, 30, .inl f3)), (r4, .inr (0, [.ref j4, .int (nI (((lst L2) :: L4).length))])), (j4, .inl (cI, 30, .inl f_112))]) [0, 3, 4, 5, 6, 1, 2, 7, 8] rfl
              have hD9 := hD.sub (ws' := [(sh, .inr (1, [.ref r1, .ref r2, .ref r3, .ref r4, .int (nI rc), .int (nI bo), .int (lst L2)])), (r1, .inr (0, [.ref j1, .int (nI L1.length)])), (j1, .inl (cI, 30, .inl f1)), (r2, .inr (0, [.ref j2, .int (nI L2.dropLast.length)])), (j2, .inl (cI, 30, .inl f_105)), (r3, .inr (0, [.ref j3, .int (nI L3.length)])), (j3, .inl (cI, 30, .inl f3)), (r4, .inr (0, [.ref j4, .int (nI (((lst L2) :: L4).length))])), (j4, .inl (cI, 30, .inl f_112))]) [0, 3, 4, 5, 6, 1, 2, 7, 8] (by decide) rfl
              exact W.vret hx hb hr (fun t ht hW => ⟨⟨((L1, L2.dropLast, L3, ((lst L2) :: L4)), (lst L2)), rfl, (room_c (by omega) (fun z => by rcases z with ⟨z1, (z2 | ⟨z2, z3⟩) | z2⟩ <;> first | omega | (exact absurd z3 (by rw [hff]; decide))) lv), _, _, _, _, hR1, hf_106, hR3, hf_113, g_at hP9 hK hD9 ht hW⟩, hS.F ht⟩) hS.2.2 dX1_makeRoom_138
            · refine lv_iconst (v := (nI 1)) hx hb dX1_makeRoom_69 (by decide +kernel) ?_
              refine lv_goto (tgt := 74) hx hb dX1_makeRoom_70 (by decide) ?_
              refine lv_istore (lv' := [(4, .int (nI 1)), (3, .int (nI 0)), (2, .int (nI L1.length)), (0, .ref sh), (1, .int (nI ff.toNat))]) hx hb dX1_makeRoom_74 hl (by decide) rfl (fun ls hl => ?_)
              refine lv_iload hx hb dX1_makeRoom_76 (lv_at hl 0 rfl) ?_
              refine g_if_eq (tgt := 88) hx hb dX1_makeRoom_78 (by decide) (by decide) (fun c_117 => False.elim (by omega)) (fun c_117 => ?_)
              refine lv_aload_n hx hb dX1_makeRoom_81 rfl (lv_at hl 3 rfl) ?_
              refine va_get (D := G) (ci := 1) (v := .ref r1) (C := RX1) (T := TX1) (N := 7) hx hb hts iX1_makeRoom_X1 hown hK hP 0 rfl rfl 0 (by decide) (hts (.fieldLink RX1 14 "GhostPantry$Shelves" "recent" "LGhostPantry$Row;") (by decide +kernel)) (fun _ h9 => h9) rfl dX1_makeRoom_82 ?_
              refine lv_goto (tgt := 92) hx hb dX1_makeRoom_85 (by decide) ?_
              refine lv_astore (lv' := [(5, .ref r1), (4, .int (nI 1)), (3, .int (nI 0)), (2, .int (nI L1.length)), (0, .ref sh), (1, .int (nI ff.toNat))]) hx hb dX1_makeRoom_92 hl (by decide) rfl (fun ls hl => ?_)
              refine lv_iload hx hb dX1_makeRoom_94 (lv_at hl 1 rfl) ?_
              refine g_if_eq (tgt := 106) hx hb dX1_makeRoom_96 (by decide) (by decide) (fun c_118 => False.elim (by omega)) (fun c_118 => ?_)
              refine lv_aload_n hx hb dX1_makeRoom_99 rfl (lv_at hl 4 rfl) ?_
              refine va_get (D := G) (ci := 1) (v := .ref r3) (C := RX1) (T := TX1) (N := 7) hx hb hts iX1_makeRoom_X1 hown hK hP 0 rfl rfl 2 (by decide) (hts (.fieldLink RX1 23 "GhostPantry$Shelves" "recentGhosts" "LGhostPantry$Row;") (by decide +kernel)) (fun _ h9 => h9) rfl dX1_makeRoom_100 ?_
              refine lv_goto (tgt := 110) hx hb dX1_makeRoom_103 (by decide) ?_
              refine lv_astore (lv' := [(6, .ref r3), (5, .ref r1), (4, .int (nI 1)), (3, .int (nI 0)), (2, .int (nI L1.length)), (0, .ref sh), (1, .int (nI ff.toNat))]) hx hb dX1_makeRoom_110 hl (by decide) rfl (fun ls hl => ?_)
              refine lv_aload_n hx hb dX1_makeRoom_112 rfl (lv_at hl 5 rfl) ?_
              refine lv_aload hx hb dX1_makeRoom_113 (lv_at hl 1 rfl) ?_
              have hPc := hP.sub (ws' := [(r1, .inr (0, [.ref j1, .int (nI L1.length)])), (j1, .inl (cI, 30, .inl f1))]) [5, 6] rfl
              have hDc := hD.sub (ws' := [(r1, .inr (0, [.ref j1, .int (nI L1.length)])), (j1, .inl (cI, 30, .inl f1))]) [5, 6] (by decide) rfl
              have hKc := hK.sub (tys' := [(cI, .int)]) [0] rfl
              have hFc := va_free (wc := [(r1, .inr (0, [.ref j1, .int (nI L1.length)])), (j1, .inl (cI, 30, .inl f1))]) hD hS hA [5, 6] rfl
              refine va_calli (va_runV (As := []) (rest := [.ref sh]) ⟨hx, hb, hml, hown, hts⟩ (c_X0_takeLast l G cI r1 j1 f1 L1 hR1 (by omega) (by omega) H_99.size) (cwV 0 hts gX1_makeRoom_X0_takeLast rfl rfl rfl (by decide +kernel) ⟨Nat.le_of_ble_eq_true rfl, Nat.le_of_ble_eq_true rfl⟩) (g_preV (As := []) hPc hKc hDc 0 rfl rfl) rfl rfl hl.1 rfl (lv_room (Nat.le_of_ble_eq_true rfl)) dX1_makeRoom_115 ⟨(Nat.le_of_ble_eq_true rfl), (Nat.le_of_ble_eq_true rfl)⟩) hS (fun q _ h => hFc q h) hFc (fun r_122 u_123 t H_121 locs ht hvm hw hB hz1 hk1 hS1 => ?_)
              subst hw
              obtain ⟨f_119, hf_120, hB⟩ := hB
              obtain ⟨hP1, hD1⟩ := g_join (wc := [(r1, .inr (0, [.ref j1, .int (nI L1.length)])), (j1, .inl (cI, 30, .inl f1))]) (wr := [(sh, .inr (1, [.ref r1, .ref r2, .ref r3, .ref r4, .int (nI rc), .int (nI bo), .int lv])), (r3, .inr (0, [.ref j3, .int (nI L3.length)])), (j3, .inl (cI, 30, .inl f3)), (r4, .inr (0, [.ref j4, .int (nI L4.length)])), (j4, .inl (cI, 30, .inl f4)), (r2, .inr (0, [.ref j2, .int (nI L2.length)])), (j2, .inl (cI, 30, .inl f2))]) (w1 := [(r1, .inr (0, [.ref j1, .int (nI L1.dropLast.length)])), (j1, .inl (cI, 30, .inl f_119))]) hP hD [5, 6] [0, 1, 2, 3, 4, 7, 8] rfl rfl (by decide) (by decide) ht hk1 hFc hB
              clear hB hk1 hz1 hvm ht hPc hDc hKc hFc
              clear hP hD hS
              have hP : va_P G vwCl [(sh, .inr (1, [.ref r1, .ref r2, .ref r3, .ref r4, .int (nI rc), .int (nI bo), .int lv])), (r3, .inr (0, [.ref j3, .int (nI L3.length)])), (j3, .inl (cI, 30, .inl f3)), (r4, .inr (0, [.ref j4, .int (nI L4.length)])), (j4, .inl (cI, 30, .inl f4)), (r2, .inr (0, [.ref j2, .int (nI L2.length)])), (j2, .inl (cI, 30, .inl f2)), (r1, .inr (0, [.ref j1, .int (nI L1.dropLast.length)])), (j1, .inl (cI, 30, .inl f_119))] H_121 := hP1
              have hD : va_D A [(sh, .inr (1, [.ref r1, .ref r2, .ref r3, .ref r4, .int (nI rc), .int (nI bo), .int lv])), (r3, .inr (0, [.ref j3, .int (nI L3.length)])), (j3, .inl (cI, 30, .inl f3)), (r4, .inr (0, [.ref j4, .int (nI L4.length)])), (j4, .inl (cI, 30, .inl f4)), (r2, .inr (0, [.ref j2, .int (nI L2.length)])), (j2, .inl (cI, 30, .inl f2)), (r1, .inr (0, [.ref j1, .int (nI L1.dropLast.length)])), (j1, .inl (cI, 30, .inl f_119))] := hD1
              have hS := hS1
              clear hP1 hD1 hS1
              refine va_put (D := G) (ci := 1) (v := .int (lst L1)) (ty := .int) (C := RX1) (T := TX1) (N := 7) hx hb hts iX1_makeRoom_X1 tyX1 tyX1_ok nmX1 hown hK hP hD hS 0 rfl rfl 6 (by decide) (hts (.fieldLink RX1 36 "GhostPantry$Shelves" "leaver" "I") (by decide +kernel)) (fun _ h9 => h9) rfl (by decide +kernel) rfl rfl (Nat.le_of_ble_eq_true rfl) dX1_makeRoom_118 (fun H_124 locs hP1 hD1 hS1 => ?_)
              clear hP hD hS
              have hP : va_P G vwCl [(sh, .inr (1, [.ref r1, .ref r2, .ref r3, .ref r4, .int (nI rc), .int (nI bo), .int (lst L1)])), (r3, .inr (0, [.ref j3, .int (nI L3.length)])), (j3, .inl (cI, 30, .inl f3)), (r4, .inr (0, [.ref j4, .int (nI L4.length)])), (j4, .inl (cI, 30, .inl f4)), (r2, .inr (0, [.ref j2, .int (nI L2.length)])), (j2, .inl (cI, 30, .inl f2)), (r1, .inr (0, [.ref j1, .int (nI L1.dropLast.length)])), (j1, .inl (cI, 30, .inl f_119))] H_124 := hP1
              have hD : va_D A [(sh, .inr (1, [.ref r1, .ref r2, .ref r3, .ref r4, .int (nI rc), .int (nI bo), .int (lst L1)])), (r3, .inr (0, [.ref j3, .int (nI L3.length)])), (j3, .inl (cI, 30, .inl f3)), (r4, .inr (0, [.ref j4, .int (nI L4.length)])), (j4, .inl (cI, 30, .inl f4)), (r2, .inr (0, [.ref j2, .int (nI L2.length)])), (j2, .inl (cI, 30, .inl f2)), (r1, .inr (0, [.ref j1, .int (nI L1.dropLast.length)])), (j1, .inl (cI, 30, .inl f_119))] := hD1
              have hS := hS1
              clear hP1 hD1 hS1
              refine lv_aload_n hx hb dX1_makeRoom_121 rfl (lv_at hl 5 rfl) ?_
              refine va_get (D := G) (ci := 1) (v := .int (lst L1)) (C := RX1) (T := TX1) (N := 7) hx hb hts iX1_makeRoom_X1 hown hK hP 0 rfl rfl 6 (by decide) (hts (.fieldLink RX1 36 "GhostPantry$Shelves" "leaver" "I") (by decide +kernel)) (fun _ h9 => h9) rfl dX1_makeRoom_122 ?_
              refine lv_iconst (v := (-1)) hx hb dX1_makeRoom_125 (by decide +kernel) ?_
              refine lv_icmp_eq (tgt := 138) hx hb dX1_makeRoom_126 (by decide) (fun c_125 => False.elim (by exact ok_ne (ok_lst hj1 (by omega)) c_125)) (fun c_125 => ?_)
              refine lv_aload hx hb dX1_makeRoom_129 (lv_at hl 0 rfl) ?_
              refine lv_aload_n hx hb dX1_makeRoom_131 rfl (lv_at hl 5 rfl) ?_
              refine va_get (D := G) (ci := 1) (v := .int (lst L1)) (C := RX1) (T := TX1) (N := 7) hx hb hts iX1_makeRoom_X1 hown hK hP 0 rfl rfl 6 (by decide) (hts (.fieldLink RX1 36 "GhostPantry$Shelves" "leaver" "I") (by decide +kernel)) (fun _ h9 => h9) rfl dX1_makeRoom_132 ?_
              have hPc := hP.sub (ws' := [(r3, .inr (0, [.ref j3, .int (nI L3.length)])), (j3, .inl (cI, 30, .inl f3))]) [1, 2] rfl
              have hDc := hD.sub (ws' := [(r3, .inr (0, [.ref j3, .int (nI L3.length)])), (j3, .inl (cI, 30, .inl f3))]) [1, 2] (by decide) rfl
              have hKc := hK.sub (tys' := [(cI, .int)]) [0] rfl
              have hFc := va_free (wc := [(r3, .inr (0, [.ref j3, .int (nI L3.length)])), (j3, .inl (cI, 30, .inl f3))]) hD hS hA [1, 2] rfl
              refine va_callv (va_runV (As := [.int (lst L1)]) (rest := []) ⟨hx, hb, hml, hown, hts⟩ (c_X0_putFirst l G cI r3 j3 f3 L3 hR3 (by omega) (lst L1) (by omega) H_124.size) (cwV 1 hts gX1_makeRoom_X0_putFirst rfl rfl rfl (by decide +kernel) ⟨Nat.le_of_ble_eq_true rfl, Nat.le_of_ble_eq_true rfl⟩) (g_preV (As := [.int (lst L1)]) hPc hKc hDc 0 rfl rfl) rfl rfl hl.1 rfl (lv_room (Nat.le_of_ble_eq_true rfl)) dX1_makeRoom_135 ⟨(Nat.le_of_ble_eq_true rfl), (Nat.le_of_ble_eq_true rfl)⟩) hS (fun q _ h => hFc q h) hFc (fun u_130 t H_128 locs ht hvm hw hB hz1 hk1 hS1 => ?_)
              obtain ⟨f_126, hf_127, hB⟩ := hB
              obtain ⟨hP1, hD1⟩ := g_join (wc := [(r3, .inr (0, [.ref j3, .int (nI L3.length)])), (j3, .inl (cI, 30, .inl f3))]) (wr := [(sh, .inr (1, [.ref r1, .ref r2, .ref r3, .ref r4, .int (nI rc), .int (nI bo), .int (lst L1)])), (r4, .inr (0, [.ref j4, .int (nI L4.length)])), (j4, .inl (cI, 30, .inl f4)), (r2, .inr (0, [.ref j2, .int (nI L2.length)])), (j2, .inl (cI, 30, .inl f2)), (r1, .inr (0, [.ref j1, .int (nI L1.dropLast.length)])), (j1, .inl (cI, 30, .inl f_119))]) (w1 := [(r3, .inr (0, [.ref j3, .int (nI (((lst L1) :: L3).length))])), (j3, .inl (cI, 30, .inl f_126))]) hP hD [1, 2] [0, 3, 4, 5, 6, 7, 8] rfl rfl (by decide) (by decide) ht hk1 hFc hB
              clear hB hk1 hz1 hvm ht hPc hDc hKc hFc
              clear hP hD hS
              have hP : va_P G vwCl [(sh, .inr (1, [.ref r1, .ref r2, .ref r3, .ref r4, .int (nI rc), .int (nI bo), .int (lst L1)])), (r4, .inr (0, [.ref j4, .int (nI L4.length)])), (j4, .inl (cI, 30, .inl f4)), (r2, .inr (0, [.ref j2, .int (nI L2.length)])), (j2, .inl (cI, 30, .inl f2)), (r1, .inr (0, [.ref j1, .int (nI L1.dropLast.length)])), (j1, .inl (cI, 30, .inl f_119)), (r3, .inr (0, [.ref j3, .int (nI (((lst L1) :: L3).length))])), (j3, .inl (cI, 30, .inl f_126))] H_128 := hP1
              have hD : va_D A [(sh, .inr (1, [.ref r1, .ref r2, .ref r3, .ref r4, .int (nI rc), .int (nI bo), .int (lst L1)])), (r4, .inr (0, [.ref j4, .int (nI L4.length)])), (j4, .inl (cI, 30, .inl f4)), (r2, .inr (0, [.ref j2, .int (nI L2.length)])), (j2, .inl (cI, 30, .inl f2)), (r1, .inr (0, [.ref j1, .int (nI L1.dropLast.length)])), (j1, .inl (cI, 30, .inl f_119)), (r3, .inr (0, [.ref j3, .int (nI (((lst L1) :: L3).length))])), (j3, .inl (cI, 30, .inl f_126))] := hD1
              have hS := hS1
              clear hP1 hD1 hS1
              have hP9 := hP.sub (ws' := [(sh, .inr (1, [.ref r1, .ref r2, .ref r3, .ref r4, .int (nI rc), .int (nI bo), .int (lst L1)])), (r1, .inr (0, [.ref j1, .int (nI L1.dropLast.length)])), (j1, .inl (cI, 30, .inl f_119)), (r2, .inr (0, [.ref j2, .int (nI L2.length)])), (j2, .inl (cI, 30, .inl f2)), (r3, .inr (0, [.ref j3, .int (nI (((lst L1) :: L3).length))])), (j3, .inl (cI, 30, .inl f_126)), (r4, .inr (0, [.ref j4, .int (nI L4.length)])), (j4, .inl (cI, 30, .inl f4))]) [0, 5, 6, 3, 4, 7, 8, 1, 2] rfl
              have hD9 := hD.sub (ws' := [(sh, .inr (1, [.ref r1, .ref r2, .ref r3, .ref r4, .int (nI rc), .int (nI bo), .int (lst L1)])), (r1, .inr (0, [.ref j1, .int (nI L1.dropLast.length)])), (j1, .inl (cI, 30, .inl f_119)), (r2, .inr (0, [.ref j2, .int (nI L2.length)])), (j2, .inl (cI, 30, .inl f2)), (r3, .inr (0, [.ref j3, .int (nI (((lst L1) :: L3).length))])), (j3, .inl (cI, 30, .inl f_126)), (r4, .inr (0, [.ref j4, .int (nI L4.length)])), (j4, .inl (cI, 30, .inl f4))]) [0, 5, 6, 3, 4, 7, 8, 1, 2] (by decide) rfl
              exact W.vret hx hb hr (fun t ht hW => ⟨⟨((L1.dropLast, L2, ((lst L1) :: L3), L4), (lst L1)), rfl, (room_b (by omega) (by omega) (Or.inr (by omega)) lv), _, _, _, _, hf_120, hR2, hf_127, hR4, g_at hP9 hK hD9 ht hW⟩, hS.F ht⟩) hS.2.2 dX1_makeRoom_138
        · refine lv_iconst (v := (nI 1)) hx hb dX1_makeRoom_45 (by decide +kernel) ?_
          refine lv_goto (tgt := 50) hx hb dX1_makeRoom_46 (by decide) ?_
          refine lv_istore_n (lv' := [(3, .int (nI 1)), (2, .int (nI L1.length)), (0, .ref sh), (1, .int (nI ff.toNat))]) hx hb dX1_makeRoom_50 rfl hl (by decide) rfl (fun ls hl => ?_)
          refine lv_iload_n hx hb dX1_makeRoom_51 rfl (lv_at hl 1 rfl) ?_
          refine g_if_le (tgt := 59) hx hb dX1_makeRoom_52 (by decide) (by omega) (fun c_131 => ?_) (fun c_131 => ?_)
          · refine lv_aload_n hx hb dX1_makeRoom_59 rfl (lv_at hl 2 rfl) ?_
            refine va_get (D := G) (ci := 1) (v := .ref r2) (C := RX1) (T := TX1) (N := 7) hx hb hts iX1_makeRoom_X1 hown hK hP 0 rfl rfl 1 (by decide) (hts (.fieldLink RX1 20 "GhostPantry$Shelves" "frequent" "LGhostPantry$Row;") (by decide +kernel)) (fun _ h9 => h9) rfl dX1_makeRoom_60 ?_
            have hPc := hP.sub (ws' := [(r2, .inr (0, [.ref j2, .int (nI L2.length)])), (j2, .inl (cI, 30, .inl f2))]) [7, 8] rfl
            have hDc := hD.sub (ws' := [(r2, .inr (0, [.ref j2, .int (nI L2.length)])), (j2, .inl (cI, 30, .inl f2))]) [7, 8] (by decide) rfl
            have hKc := hK.sub (tys' := [(cI, .int)]) [0] rfl
            have hFc := va_free (wc := [(r2, .inr (0, [.ref j2, .int (nI L2.length)])), (j2, .inl (cI, 30, .inl f2))]) hD hS hA [7, 8] rfl
            refine va_calli (va_runV (As := []) (rest := []) ⟨hx, hb, hml, hown, hts⟩ (c_X0_length l G cI r2 j2 f2 L2 hR2 (by omega)  H_4.size) (cwV 0 hts gX1_makeRoom_X0_length rfl rfl rfl (by decide +kernel) ⟨Nat.le_of_ble_eq_true rfl, Nat.le_of_ble_eq_true rfl⟩) (g_preV (As := []) hPc hKc hDc 0 rfl rfl) rfl rfl hl.1 rfl (lv_room (Nat.le_of_ble_eq_true rfl)) dX1_makeRoom_63 ⟨(Nat.le_of_ble_eq_true rfl), (Nat.le_of_ble_eq_true rfl)⟩) hS (fun q _ h => hFc q h) hFc (fun r_133 u_134 t H_132 locs ht hvm hw hB hz1 hk1 hS1 => ?_)
            subst hw
            obtain ⟨hP1, hD1⟩ := g_join (wc := [(r2, .inr (0, [.ref j2, .int (nI L2.length)])), (j2, .inl (cI, 30, .inl f2))]) (wr := [(sh, .inr (1, [.ref r1, .ref r2, .ref r3, .ref r4, .int (nI rc), .int (nI bo), .int lv])), (r3, .inr (0, [.ref j3, .int (nI L3.length)])), (j3, .inl (cI, 30, .inl f3)), (r4, .inr (0, [.ref j4, .int (nI L4.length)])), (j4, .inl (cI, 30, .inl f4)), (r1, .inr (0, [.ref j1, .int (nI L1.length)])), (j1, .inl (cI, 30, .inl f1))]) (w1 := [(r2, .inr (0, [.ref j2, .int (nI L2.length)])), (j2, .inl (cI, 30, .inl f2))]) hP hD [7, 8] [0, 1, 2, 3, 4, 5, 6] rfl rfl (by decide) (by decide) ht hk1 hFc hB
            clear hB hk1 hz1 hvm ht hPc hDc hKc hFc
            clear hP hD hS
            have hP : va_P G vwCl [(sh, .inr (1, [.ref r1, .ref r2, .ref r3, .ref r4, .int (nI rc), .int (nI bo), .int lv])), (r3, .inr (0, [.ref j3, .int (nI L3.length)])), (j3, .inl (cI, 30, .inl f3)), (r4, .inr (0, [.ref j4, .int (nI L4.length)])), (j4, .inl (cI, 30, .inl f4)), (r1, .inr (0, [.ref j1, .int (nI L1.length)])), (j1, .inl (cI, 30, .inl f1)), (r2, .inr (0, [.ref j2, .int (nI L2.length)])), (j2, .inl (cI, 30, .inl f2))] H_132 := hP1
            have hD : va_D A [(sh, .inr (1, [.ref r1, .ref r2, .ref r3, .ref r4, .int (nI rc), .int (nI bo), .int lv])), (r3, .inr (0, [.ref j3, .int (nI L3.length)])), (j3, .inl (cI, 30, .inl f3)), (r4, .inr (0, [.ref j4, .int (nI L4.length)])), (j4, .inl (cI, 30, .inl f4)), (r1, .inr (0, [.ref j1, .int (nI L1.length)])), (j1, .inl (cI, 30, .inl f1)), (r2, .inr (0, [.ref j2, .int (nI L2.length)])), (j2, .inl (cI, 30, .inl f2))] := hD1
            have hS := hS1
            clear hP1 hD1 hS1
            refine g_if_ne (tgt := 73) hx hb dX1_makeRoom_66 (by decide) (by omega) (fun c_135 => ?_) (fun c_135 => False.elim (by omega))
            refine lv_iconst (v := (nI 0)) hx hb dX1_makeRoom_73 (by decide +kernel) ?_
            refine lv_istore (lv' := [(4, .int (nI 0)), (3, .int (nI 1)), (2, .int (nI L1.length)), (0, .ref sh), (1, .int (nI ff.toNat))]) hx hb dX1_makeRoom_74 hl (by decide) rfl (fun ls hl => ?_)
            refine lv_iload hx hb dX1_makeRoom_76 (lv_at hl 0 rfl) ?_
            refine g_if_eq (tgt := 88) hx hb dX1_makeRoom_78 (by decide) (by decide) (fun c_136 => ?_) (fun c_136 => False.elim (by omega))
            refine lv_aload_n hx hb dX1_makeRoom_88 rfl (lv_at hl 3 rfl) ?_
            refine va_get (D := G) (ci := 1) (v := .ref r2) (C := RX1) (T := TX1) (N := 7) hx hb hts iX1_makeRoom_X1 hown hK hP 0 rfl rfl 1 (by decide) (hts (.fieldLink RX1 20 "GhostPantry$Shelves" "frequent" "LGhostPantry$Row;") (by decide +kernel)) (fun _ h9 => h9) rfl dX1_makeRoom_89 ?_
            refine lv_astore (lv' := [(5, .ref r2), (4, .int (nI 0)), (3, .int (nI 1)), (2, .int (nI L1.length)), (0, .ref sh), (1, .int (nI ff.toNat))]) hx hb dX1_makeRoom_92 hl (by decide) rfl (fun ls hl => ?_)
            refine lv_iload hx hb dX1_makeRoom_94 (lv_at hl 1 rfl) ?_
            refine g_if_eq (tgt := 106) hx hb dX1_makeRoom_96 (by decide) (by decide) (fun c_137 => ?_) (fun c_137 => False.elim (by omega))
            refine lv_aload_n hx hb dX1_makeRoom_106 rfl (lv_at hl 4 rfl) ?_
            refine va_get (D := G) (ci := 1) (v := .ref r4) (C := RX1) (T := TX1) (N := 7) hx hb hts iX1_makeRoom_X1 hown hK hP 0 rfl rfl 3 (by decide) (hts (.fieldLink RX1 26 "GhostPantry$Shelves" "frequentGhosts" "LGhostPantry$Row;") (by decide +kernel)) (fun _ h9 => h9) rfl dX1_makeRoom_107 ?_
            refine lv_astore (lv' := [(6, .ref r4), (5, .ref r2), (4, .int (nI 0)), (3, .int (nI 1)), (2, .int (nI L1.length)), (0, .ref sh), (1, .int (nI ff.toNat))]) hx hb dX1_makeRoom_110 hl (by decide) rfl (fun ls hl => ?_)
            refine lv_aload_n hx hb dX1_makeRoom_112 rfl (lv_at hl 5 rfl) ?_
            refine lv_aload hx hb dX1_makeRoom_113 (lv_at hl 1 rfl) ?_
            have hPc := hP.sub (ws' := [(r2, .inr (0, [.ref j2, .int (nI L2.length)])), (j2, .inl (cI, 30, .inl f2))]) [7, 8] rfl
            have hDc := hD.sub (ws' := [(r2, .inr (0, [.ref j2, .int (nI L2.length)])), (j2, .inl (cI, 30, .inl f2))]) [7, 8] (by decide) rfl
            have hKc := hK.sub (tys' := [(cI, .int)]) [0] rfl
            have hFc := va_free (wc := [(r2, .inr (0, [.ref j2, .int (nI L2.length)])), (j2, .inl (cI, 30, .inl f2))]) hD hS hA [7, 8] rfl
            refine va_calli (va_runV (As := []) (rest := [.ref sh]) ⟨hx, hb, hml, hown, hts⟩ (c_X0_takeLast l G cI r2 j2 f2 L2 hR2 (by omega) (by omega) H_132.size) (cwV 0 hts gX1_makeRoom_X0_takeLast rfl rfl rfl (by decide +kernel) ⟨Nat.le_of_ble_eq_true rfl, Nat.le_of_ble_eq_true rfl⟩) (g_preV (As := []) hPc hKc hDc 0 rfl rfl) rfl rfl hl.1 rfl (lv_room (Nat.le_of_ble_eq_true rfl)) dX1_makeRoom_115 ⟨(Nat.le_of_ble_eq_true rfl), (Nat.le_of_ble_eq_true rfl)⟩) hS (fun q _ h => hFc q h) hFc (fun r_141 u_142 t H_140 locs ht hvm hw hB hz1 hk1 hS1 => ?_)
            subst hw
            obtain ⟨f_138, hf_139, hB⟩ := hB
            obtain ⟨hP1, hD1⟩ := g_join (wc := [(r2, .inr (0, [.ref j2, .int (nI L2.length)])), (j2, .inl (cI, 30, .inl f2))]) (wr := [(sh, .inr (1, [.ref r1, .ref r2, .ref r3, .ref r4, .int (nI rc), .int (nI bo), .int lv])), (r3, .inr (0, [.ref j3, .int (nI L3.length)])), (j3, .inl (cI, 30, .inl f3)), (r4, .inr (0, [.ref j4, .int (nI L4.length)])), (j4, .inl (cI, 30, .inl f4)), (r1, .inr (0, [.ref j1, .int (nI L1.length)])), (j1, .inl (cI, 30, .inl f1))]) (w1 := [(r2, .inr (0, [.ref j2, .int (nI L2.dropLast.length)])), (j2, .inl (cI, 30, .inl f_138))]) hP hD [7, 8] [0, 1, 2, 3, 4, 5, 6] rfl rfl (by decide) (by decide) ht hk1 hFc hB
            clear hB hk1 hz1 hvm ht hPc hDc hKc hFc
            clear hP hD hS
            have hP : va_P G vwCl [(sh, .inr (1, [.ref r1, .ref r2, .ref r3, .ref r4, .int (nI rc), .int (nI bo), .int lv])), (r3, .inr (0, [.ref j3, .int (nI L3.length)])), (j3, .inl (cI, 30, .inl f3)), (r4, .inr (0, [.ref j4, .int (nI L4.length)])), (j4, .inl (cI, 30, .inl f4)), (r1, .inr (0, [.ref j1, .int (nI L1.length)])), (j1, .inl (cI, 30, .inl f1)), (r2, .inr (0, [.ref j2, .int (nI L2.dropLast.length)])), (j2, .inl (cI, 30, .inl f_138))] H_140 := hP1
            have hD : va_D A [(sh, .inr (1, [.ref r1, .ref r2, .ref r3, .ref r4, .int (nI rc), .int (nI bo), .int lv])), (r3, .inr (0, [.ref j3, .int (nI L3.length)])), (j3, .inl (cI, 30, .inl f3)), (r4, .inr (0, [.ref j4, .int (nI L4.length)])), (j4, .inl (cI, 30, .inl f4)), (r1, .inr (0, [.ref j1, .int (nI L1.length)])), (j1, .inl (cI, 30, .inl f1)), (r2, .inr (0, [.ref j2, .int (nI L2.dropLast.length)])), (j2, .inl (cI, 30, .inl f_138))] := hD1
            have hS := hS1
            clear hP1 hD1 hS1
            refine va_put (D := G) (ci := 1) (v := .int (lst L2)) (ty := .int) (C := RX1) (T := TX1) (N := 7) hx hb hts iX1_makeRoom_X1 tyX1 tyX1_ok nmX1 hown hK hP hD hS 0 rfl rfl 6 (by decide) (hts (.fieldLink RX1 36 "GhostPantry$Shelves" "leaver" "I") (by decide +kernel)) (fun _ h9 => h9) rfl (by decide +kernel) rfl rfl (Nat.le_of_ble_eq_true rfl) dX1_makeRoom_118 (fun H_143 locs hP1 hD1 hS1 => ?_)
            clear hP hD hS
            have hP : va_P G vwCl [(sh, .inr (1, [.ref r1, .ref r2, .ref r3, .ref r4, .int (nI rc), .int (nI bo), .int (lst L2)])), (r3, .inr (0, [.ref j3, .int (nI L3.length)])), (j3, .inl (cI, 30, .inl f3)), (r4, .inr (0, [.ref j4, .int (nI L4.length)])), (j4, .inl (cI, 30, .inl f4)), (r1, .inr (0, [.ref j1, .int (nI L1.length)])), (j1, .inl (cI, 30, .inl f1)), (r2, .inr (0, [.ref j2, .int (nI L2.dropLast.length)])), (j2, .inl (cI, 30, .inl f_138))] H_143 := hP1
            have hD : va_D A [(sh, .inr (1, [.ref r1, .ref r2, .ref r3, .ref r4, .int (nI rc), .int (nI bo), .int (lst L2)])), (r3, .inr (0, [.ref j3, .int (nI L3.length)])), (j3, .inl (cI, 30, .inl f3)), (r4, .inr (0, [.ref j4, .int (nI L4.length)])), (j4, .inl (cI, 30, .inl f4)), (r1, .inr (0, [.ref j1, .int (nI L1.length)])), (j1, .inl (cI, 30, .inl f1)), (r2, .inr (0, [.ref j2, .int (nI L2.dropLast.length)])), (j2, .inl (cI, 30, .inl f_138))] := hD1
            have hS := hS1
            clear hP1 hD1 hS1
            refine lv_aload_n hx hb dX1_makeRoom_121 rfl (lv_at hl 5 rfl) ?_
            refine va_get (D := G) (ci := 1) (v := .int (lst L2)) (C := RX1) (T := TX1) (N := 7) hx hb hts iX1_makeRoom_X1 hown hK hP 0 rfl rfl 6 (by decide) (hts (.fieldLink RX1 36 "GhostPantry$Shelves" "leaver" "I") (by decide +kernel)) (fun _ h9 => h9) rfl dX1_makeRoom_122 ?_
            refine lv_iconst (v := (-1)) hx hb dX1_makeRoom_125 (by decide +kernel) ?_
            refine lv_icmp_eq (tgt := 138) hx hb dX1_makeRoom_126 (by decide) (fun c_144 => False.elim (by exact ok_ne (ok_lst hj2 (by omega)) c_144)) (fun c_144 => ?_)
            refine lv_aload hx hb dX1_makeRoom_129 (lv_at hl 0 rfl) ?_
            refine lv_aload_n hx hb dX1_makeRoom_131 rfl (lv_at hl 5 rfl) ?_
            refine va_get (D := G) (ci := 1) (v := .int (lst L2)) (C := RX1) (T := TX1) (N := 7) hx hb hts iX1_makeRoom_X1 hown hK hP 0 rfl rfl 6 (by decide) (hts (.fieldLink RX1 36 "GhostPantry$Shelves" "leaver" "I") (by decide +kernel)) (fun _ h9 => h9) rfl dX1_makeRoom_132 ?_
            have hPc := hP.sub (ws' := [(r4, .inr (0, [.ref j4, .int (nI L4.length)])), (j4, .inl (cI, 30, .inl f4))]) [3, 4] rfl
            have hDc := hD.sub (ws' := [(r4, .inr (0, [.ref j4, .int (nI L4.length)])), (j4, .inl (cI, 30, .inl f4))]) [3, 4] (by decide) rfl
            have hKc := hK.sub (tys' := [(cI, .int)]) [0] rfl
            have hFc := va_free (wc := [(r4, .inr (0, [.ref j4, .int (nI L4.length)])), (j4, .inl (cI, 30, .inl f4))]) hD hS hA [3, 4] rfl
            refine va_callv (va_runV (As := [.int (lst L2)]) (rest := []) ⟨hx, hb, hml, hown, hts⟩ (c_X0_putFirst l G cI r4 j4 f4 L4 hR4 (by omega) (lst L2) (by omega) H_143.size) (cwV 1 hts gX1_makeRoom_X0_putFirst rfl rfl rfl (by decide +kernel) ⟨Nat.le_of_ble_eq_true rfl, Nat.le_of_ble_eq_true rfl⟩) (g_preV (As := [.int (lst L2)]) hPc hKc hDc 0 rfl rfl) rfl rfl hl.1 rfl (lv_room (Nat.le_of_ble_eq_true rfl)) dX1_makeRoom_135 ⟨(Nat.le_of_ble_eq_true rfl), (Nat.le_of_ble_eq_true rfl)⟩) hS (fun q _ h => hFc q h) hFc (fun u_149 t H_147 locs ht hvm hw hB hz1 hk1 hS1 => ?_)
            obtain ⟨f_145, hf_146, hB⟩ := hB
            obtain ⟨hP1, hD1⟩ := g_join (wc := [(r4, .inr (0, [.ref j4, .int (nI L4.length)])), (j4, .inl (cI, 30, .inl f4))]) (wr := [(sh, .inr (1, [.ref r1, .ref r2, .ref r3, .ref r4, .int (nI rc), .int (nI bo), .int (lst L2)])), (r3, .inr (0, [.ref j3, .int (nI L3.length)])), (j3, .inl (cI, 30, .inl f3)), (r1, .inr (0, [.ref j1, .int (nI L1.length)])), (j1, .inl (cI, 30, .inl f1)), (r2, .inr (0, [.ref j2, .int (nI L2.dropLast.length)])), (j2, .inl (cI, 30, .inl f_138))]) (w1 := [(r4, .inr (0, [.ref j4, .int (nI (((lst L2) :: L4).length))])), (j4, .inl (cI, 30, .inl f_145))]) hP hD [3, 4] [0, 1, 2, 5, 6, 7, 8] rfl rfl (by decide) (by decide) ht hk1 hFc hB
            clear hB hk1 hz1 hvm ht hPc hDc hKc hFc
            clear hP hD hS
            have hP : va_P G vwCl [(sh, .inr (1, [.ref r1, .ref r2, .ref r3, .ref r4, .int (nI rc), .int (nI bo), .int (lst L2)])), (r3, .inr (0, [.ref j3, .int (nI L3.length)])), (j3, .inl (cI, 30, .inl f3)), (r1, .inr (0, [.ref j1, .int (nI L1.length)])), (j1, .inl (cI, 30, .inl f1)), (r2, .inr (0, [.ref j2, .int (nI L2.dropLast.length)])), (j2, .inl (cI, 30, .inl f_138)), (r4, .inr (0, [.ref j4, .int (nI (((lst L2) :: L4).length))])), (j4, .inl (cI, 30, .inl f_145))] H_147 := hP1
            have hD : va_D A [(sh, .inr (1, [.ref r1, .ref r2, .ref r3, .ref r4, .int (nI rc), .int (nI bo), .int (lst L2)])), (r3, .inr (0, [.ref j3, .int (nI L3.length)])), (j3, .inl (cI, 30, .inl f3)), (r1, .inr (0, [.ref j1, .int (nI L1.length)])), (j1, .inl (cI, 30, .inl f1)), (r2, .inr (0, [.ref j2, .int (nI L2.dropLast.length)])), (j2, .inl (cI, 30, .inl f_138)), (r4, .inr (0, [.ref j4, .int (nI (((lst L2) :: L4).length))])), (j4, .inl (cI, 30, .inl f_145))] := hD1
            have hS := hS1
            clear hP1 hD1 hS1
            have hP9 := hP.sub (ws' := [(sh, .inr (1, [.ref r1, .ref r2, .ref r3, .ref r4, .int (nI rc), .int (nI bo), .int (lst L2)])), (r1, .inr (0, [.ref j1, .int (nI L1.length)])), (j1, .inl (cI, 30, .inl f1)), (r2, .inr (0, [.ref j2, .int (nI L2.dropLast.length)])), (j2, .inl (cI, 30, .inl f_138)), (r3, .inr (0, [.ref j3, .int (nI L3.length)])), (j3, .inl (cI, 30, .inl f3)), (r4, .inr (0, [.ref j4, .int (nI (((lst L2) :: L4).length))])), (j4, .inl (cI, 30, .inl f_145))]) [0, 3, 4, 5, 6, 1, 2, 7, 8] rfl
            have hD9 := hD.sub (ws' := [(sh, .inr (1, [.ref r1, .ref r2, .ref r3, .ref r4, .int (nI rc), .int (nI bo), .int (lst L2)])), (r1, .inr (0, [.ref j1, .int (nI L1.length)])), (j1, .inl (cI, 30, .inl f1)), (r2, .inr (0, [.ref j2, .int (nI L2.dropLast.length)])), (j2, .inl (cI, 30, .inl f_138)), (r3, .inr (0, [.ref j3, .int (nI L3.length)])), (j3, .inl (cI, 30, .inl f3)), (r4, .inr (0, [.ref j4, .int (nI (((lst L2) :: L4).length))])), (j4, .inl (cI, 30, .inl f_145))]) [0, 3, 4, 5, 6, 1, 2, 7, 8] (by decide) rfl
            exact W.vret hx hb hr (fun t ht hW => ⟨⟨((L1, L2.dropLast, L3, ((lst L2) :: L4)), (lst L2)), rfl, (room_c (by omega) (fun z => by rcases z with ⟨z1, (z2 | ⟨z2, z3⟩) | z2⟩ <;> first | omega | (exact absurd z3 (by rw [hff]; decide))) lv), _, _, _, _, hR1, hf_139, hR3, hf_146, g_at hP9 hK hD9 ht hW⟩, hS.F ht⟩) hS.2.2 dX1_makeRoom_138
          · refine lv_iload_n hx hb dX1_makeRoom_55 rfl (lv_at hl 0 rfl) ?_
            refine g_if_ne (tgt := 69) hx hb dX1_makeRoom_56 (by decide) (by decide) (fun c_150 => ?_) (fun c_150 => False.elim (by omega))
            refine lv_iconst (v := (nI 1)) hx hb dX1_makeRoom_69 (by decide +kernel) ?_
            refine lv_goto (tgt := 74) hx hb dX1_makeRoom_70 (by decide) ?_
            refine lv_istore (lv' := [(4, .int (nI 1)), (3, .int (nI 1)), (2, .int (nI L1.length)), (0, .ref sh), (1, .int (nI ff.toNat))]) hx hb dX1_makeRoom_74 hl (by decide) rfl (fun ls hl => ?_)
            refine lv_iload hx hb dX1_makeRoom_76 (lv_at hl 0 rfl) ?_
            refine g_if_eq (tgt := 88) hx hb dX1_makeRoom_78 (by decide) (by decide) (fun c_151 => False.elim (by omega)) (fun c_151 => ?_)
            refine lv_aload_n hx hb dX1_makeRoom_81 rfl (lv_at hl 3 rfl) ?_
            refine va_get (D := G) (ci := 1) (v := .ref r1) (C := RX1) (T := TX1) (N := 7) hx hb hts iX1_makeRoom_X1 hown hK hP 0 rfl rfl 0 (by decide) (hts (.fieldLink RX1 14 "GhostPantry$Shelves" "recent" "LGhostPantry$Row;") (by decide +kernel)) (fun _ h9 => h9) rfl dX1_makeRoom_82 ?_
            refine lv_goto (tgt := 92) hx hb dX1_makeRoom_85 (by decide) ?_
            refine lv_astore (lv' := [(5, .ref r1), (4, .int (nI 1)), (3, .int (nI 1)), (2, .int (nI L1.length)), (0, .ref sh), (1, .int (nI ff.toNat))]) hx hb dX1_makeRoom_92 hl (by decide) rfl (fun ls hl => ?_)
            refine lv_iload hx hb dX1_makeRoom_94 (lv_at hl 1 rfl) ?_
            refine g_if_eq (tgt := 106) hx hb dX1_makeRoom_96 (by decide) (by decide) (fun c_152 => False.elim (by omega)) (fun c_152 => ?_)
            refine lv_aload_n hx hb dX1_makeRoom_99 rfl (lv_at hl 4 rfl) ?_
            refine va_get (D := G) (ci := 1) (v := .ref r3) (C := RX1) (T := TX1) (N := 7) hx hb hts iX1_makeRoom_X1 hown hK hP 0 rfl rfl 2 (by decide) (hts (.fieldLink RX1 23 "GhostPantry$Shelves" "recentGhosts" "LGhostPantry$Row;") (by decide +kernel)) (fun _ h9 => h9) rfl dX1_makeRoom_100 ?_
            refine lv_goto (tgt := 110) hx hb dX1_makeRoom_103 (by decide) ?_
            refine lv_astore (lv' := [(6, .ref r3), (5, .ref r1), (4, .int (nI 1)), (3, .int (nI 1)), (2, .int (nI L1.length)), (0, .ref sh), (1, .int (nI ff.toNat))]) hx hb dX1_makeRoom_110 hl (by decide) rfl (fun ls hl => ?_)
            refine lv_aload_n hx hb dX1_makeRoom_112 rfl (lv_at hl 5 rfl) ?_
            refine lv_aload hx hb dX1_makeRoom_113 (lv_at hl 1 rfl) ?_
            have hPc := hP.sub (ws' := [(r1, .inr (0, [.ref j1, .int (nI L1.length)])), (j1, .inl (cI, 30, .inl f1))]) [5, 6] rfl
            have hDc := hD.sub (ws' := [(r1, .inr (0, [.ref j1, .int (nI L1.length)])), (j1, .inl (cI, 30, .inl f1))]) [5, 6] (by decide) rfl
            have hKc := hK.sub (tys' := [(cI, .int)]) [0] rfl
            have hFc := va_free (wc := [(r1, .inr (0, [.ref j1, .int (nI L1.length)])), (j1, .inl (cI, 30, .inl f1))]) hD hS hA [5, 6] rfl
            refine va_calli (va_runV (As := []) (rest := [.ref sh]) ⟨hx, hb, hml, hown, hts⟩ (c_X0_takeLast l G cI r1 j1 f1 L1 hR1 (by omega) (by omega) H_4.size) (cwV 0 hts gX1_makeRoom_X0_takeLast rfl rfl rfl (by decide +kernel) ⟨Nat.le_of_ble_eq_true rfl, Nat.le_of_ble_eq_true rfl⟩) (g_preV (As := []) hPc hKc hDc 0 rfl rfl) rfl rfl hl.1 rfl (lv_room (Nat.le_of_ble_eq_true rfl)) dX1_makeRoom_115 ⟨(Nat.le_of_ble_eq_true rfl), (Nat.le_of_ble_eq_true rfl)⟩) hS (fun q _ h => hFc q h) hFc (fun r_156 u_157 t H_155 locs ht hvm hw hB hz1 hk1 hS1 => ?_)
            subst hw
            obtain ⟨f_153, hf_154, hB⟩ := hB
            obtain ⟨hP1, hD1⟩ := g_join (wc := [(r1, .inr (0, [.ref j1, .int (nI L1.length)])), (j1, .inl (cI, 30, .inl f1))]) (wr := [(sh, .inr (1, [.ref r1, .ref r2, .ref r3, .ref r4, .int (nI rc), .int (nI bo), .int lv])), (r3, .inr (0, [.ref j3, .int (nI L3.length)])), (j3, .inl (cI, 30, .inl f3)), (r4, .inr (0, [.ref j4, .int (nI L4.length)])), (j4, .inl (cI, 30, .inl f4)), (r2, .inr (0, [.ref j2, .int (nI L2.length)])), (j2, .inl (cI, 30, .inl f2))]) (w1 := [(r1, .inr (0, [.ref j1, .int (nI L1.dropLast.length)])), (j1, .inl (cI, 30, .inl f_153))]) hP hD [5, 6] [0, 1, 2, 3, 4, 7, 8] rfl rfl (by decide) (by decide) ht hk1 hFc hB
            clear hB hk1 hz1 hvm ht hPc hDc hKc hFc
            clear hP hD hS
            have hP : va_P G vwCl [(sh, .inr (1, [.ref r1, .ref r2, .ref r3, .ref r4, .int (nI rc), .int (nI bo), .int lv])), (r3, .inr (0, [.ref j3, .int (nI L3.length)])), (j3, .inl (cI, 30, .inl f3)), (r4, .inr (0, [.ref j4, .int (nI L4.length)])), (j4, .inl (cI, 30, .inl f4)), (r2, .inr (0, [.ref j2, .int (nI L2.length)])), (j2, .inl (cI, 30, .inl f2)), (r1, .inr (0, [.ref j1, .int (nI L1.dropLast.length)])), (j1, .inl (cI, 30, .inl f_153))] H_155 := hP1
            have hD : va_D A [(sh, .inr (1, [.ref r1, .ref r2, .ref r3, .ref r4, .int (nI rc), .int (nI bo), .int lv])), (r3, .inr (0, [.ref j3, .int (nI L3.length)])), (j3, .inl (cI, 30, .inl f3)), (r4, .inr (0, [.ref j4, .int (nI L4.length)])), (j4, .inl (cI, 30, .inl f4)), (r2, .inr (0, [.ref j2, .int (nI L2.length)])), (j2, .inl (cI, 30, .inl f2)), (r1, .inr (0, [.ref j1, .int (nI L1.dropLast.length)])), (j1, .inl (cI, 30, .inl f_153))] := hD1
            have hS := hS1
            clear hP1 hD1 hS1
            refine va_put (D := G) (ci := 1) (v := .int (lst L1)) (ty := .int) (C := RX1) (T := TX1) (N := 7) hx hb hts iX1_makeRoom_X1 tyX1 tyX1_ok nmX1 hown hK hP hD hS 0 rfl rfl 6 (by decide) (hts (.fieldLink RX1 36 "GhostPantry$Shelves" "leaver" "I") (by decide +kernel)) (fun _ h9 => h9) rfl (by decide +kernel) rfl rfl (Nat.le_of_ble_eq_true rfl) dX1_makeRoom_118 (fun H_158 locs hP1 hD1 hS1 => ?_)
            clear hP hD hS
            have hP : va_P G vwCl [(sh, .inr (1, [.ref r1, .ref r2, .ref r3, .ref r4, .int (nI rc), .int (nI bo), .int (lst L1)])), (r3, .inr (0, [.ref j3, .int (nI L3.length)])), (j3, .inl (cI, 30, .inl f3)), (r4, .inr (0, [.ref j4, .int (nI L4.length)])), (j4, .inl (cI, 30, .inl f4)), (r2, .inr (0, [.ref j2, .int (nI L2.length)])), (j2, .inl (cI, 30, .inl f2)), (r1, .inr (0, [.ref j1, .int (nI L1.dropLast.length)])), (j1, .inl (cI, 30, .inl f_153))] H_158 := hP1
            have hD : va_D A [(sh, .inr (1, [.ref r1, .ref r2, .ref r3, .ref r4, .int (nI rc), .int (nI bo), .int (lst L1)])), (r3, .inr (0, [.ref j3, .int (nI L3.length)])), (j3, .inl (cI, 30, .inl f3)), (r4, .inr (0, [.ref j4, .int (nI L4.length)])), (j4, .inl (cI, 30, .inl f4)), (r2, .inr (0, [.ref j2, .int (nI L2.length)])), (j2, .inl (cI, 30, .inl f2)), (r1, .inr (0, [.ref j1, .int (nI L1.dropLast.length)])), (j1, .inl (cI, 30, .inl f_153))] := hD1
            have hS := hS1
            clear hP1 hD1 hS1
            refine lv_aload_n hx hb dX1_makeRoom_121 rfl (lv_at hl 5 rfl) ?_
            refine va_get (D := G) (ci := 1) (v := .int (lst L1)) (C := RX1) (T := TX1) (N := 7) hx hb hts iX1_makeRoom_X1 hown hK hP 0 rfl rfl 6 (by decide) (hts (.fieldLink RX1 36 "GhostPantry$Shelves" "leaver" "I") (by decide +kernel)) (fun _ h9 => h9) rfl dX1_makeRoom_122 ?_
            refine lv_iconst (v := (-1)) hx hb dX1_makeRoom_125 (by decide +kernel) ?_
            refine lv_icmp_eq (tgt := 138) hx hb dX1_makeRoom_126 (by decide) (fun c_159 => False.elim (by exact ok_ne (ok_lst hj1 (by omega)) c_159)) (fun c_159 => ?_)
            refine lv_aload hx hb dX1_makeRoom_129 (lv_at hl 0 rfl) ?_
            refine lv_aload_n hx hb dX1_makeRoom_131 rfl (lv_at hl 5 rfl) ?_
            refine va_get (D := G) (ci := 1) (v := .int (lst L1)) (C := RX1) (T := TX1) (N := 7) hx hb hts iX1_makeRoom_X1 hown hK hP 0 rfl rfl 6 (by decide) (hts (.fieldLink RX1 36 "GhostPantry$Shelves" "leaver" "I") (by decide +kernel)) (fun _ h9 => h9) rfl dX1_makeRoom_132 ?_
            have hPc := hP.sub (ws' := [(r3, .inr (0, [.ref j3, .int (nI L3.length)])), (j3, .inl (cI, 30, .inl f3))]) [1, 2] rfl
            have hDc := hD.sub (ws' := [(r3, .inr (0, [.ref j3, .int (nI L3.length)])), (j3, .inl (cI, 30, .inl f3))]) [1, 2] (by decide) rfl
            have hKc := hK.sub (tys' := [(cI, .int)]) [0] rfl
            have hFc := va_free (wc := [(r3, .inr (0, [.ref j3, .int (nI L3.length)])), (j3, .inl (cI, 30, .inl f3))]) hD hS hA [1, 2] rfl
            refine va_callv (va_runV (As := [.int (lst L1)]) (rest := []) ⟨hx, hb, hml, hown, hts⟩ (c_X0_putFirst l G cI r3 j3 f3 L3 hR3 (by omega) (lst L1) (by omega) H_158.size) (cwV 1 hts gX1_makeRoom_X0_putFirst rfl rfl rfl (by decide +kernel) ⟨Nat.le_of_ble_eq_true rfl, Nat.le_of_ble_eq_true rfl⟩) (g_preV (As := [.int (lst L1)]) hPc hKc hDc 0 rfl rfl) rfl rfl hl.1 rfl (lv_room (Nat.le_of_ble_eq_true rfl)) dX1_makeRoom_135 ⟨(Nat.le_of_ble_eq_true rfl), (Nat.le_of_ble_eq_true rfl)⟩) hS (fun q _ h => hFc q h) hFc (fun u_164 t H_162 locs ht hvm hw hB hz1 hk1 hS1 => ?_)
            obtain ⟨f_160, hf_161, hB⟩ := hB
            obtain ⟨hP1, hD1⟩ := g_join (wc := [(r3, .inr (0, [.ref j3, .int (nI L3.length)])), (j3, .inl (cI, 30, .inl f3))]) (wr := [(sh, .inr (1, [.ref r1, .ref r2, .ref r3, .ref r4, .int (nI rc), .int (nI bo), .int (lst L1)])), (r4, .inr (0, [.ref j4, .int (nI L4.length)])), (j4, .inl (cI, 30, .inl f4)), (r2, .inr (0, [.ref j2, .int (nI L2.length)])), (j2, .inl (cI, 30, .inl f2)), (r1, .inr (0, [.ref j1, .int (nI L1.dropLast.length)])), (j1, .inl (cI, 30, .inl f_153))]) (w1 := [(r3, .inr (0, [.ref j3, .int (nI (((lst L1) :: L3).length))])), (j3, .inl (cI, 30, .inl f_160))]) hP hD [1, 2] [0, 3, 4, 5, 6, 7, 8] rfl rfl (by decide) (by decide) ht hk1 hFc hB
            clear hB hk1 hz1 hvm ht hPc hDc hKc hFc
            clear hP hD hS
            have hP : va_P G vwCl [(sh, .inr (1, [.ref r1, .ref r2, .ref r3, .ref r4, .int (nI rc), .int (nI bo), .int (lst L1)])), (r4, .inr (0, [.ref j4, .int (nI L4.length)])), (j4, .inl (cI, 30, .inl f4)), (r2, .inr (0, [.ref j2, .int (nI L2.length)])), (j2, .inl (cI, 30, .inl f2)), (r1, .inr (0, [.ref j1, .int (nI L1.dropLast.length)])), (j1, .inl (cI, 30, .inl f_153)), (r3, .inr (0, [.ref j3, .int (nI (((lst L1) :: L3).length))])), (j3, .inl (cI, 30, .inl f_160))] H_162 := hP1
            have hD : va_D A [(sh, .inr (1, [.ref r1, .ref r2, .ref r3, .ref r4, .int (nI rc), .int (nI bo), .int (lst L1)])), (r4, .inr (0, [.ref j4, .int (nI L4.length)])), (j4, .inl (cI, 30, .inl f4)), (r2, .inr (0, [.ref j2, .int (nI L2.length)])), (j2, .inl (cI, 30, .inl f2)), (r1, .inr (0, [.ref j1, .int (nI L1.dropLast.length)])), (j1, .inl (cI, 30, .inl f_153)), (r3, .inr (0, [.ref j3, .int (nI (((lst L1) :: L3).length))])), (j3, .inl (cI, 30, .inl f_160))] := hD1
            have hS := hS1
            clear hP1 hD1 hS1
            have hP9 := hP.sub (ws' := [(sh, .inr (1, [.ref r1, .ref r2, .ref r3, .ref r4, .int (nI rc), .int (nI bo), .int (lst L1)])), (r1, .inr (0, [.ref j1, .int (nI L1.dropLast.length)])), (j1, .inl (cI, 30, .inl f_153)), (r2, .inr (0, [.ref j2, .int (nI L2.length)])), (j2, .inl (cI, 30, .inl f2)), (r3, .inr (0, [.ref j3, .int (nI (((lst L1) :: L3).length))])), (j3, .inl (cI, 30, .inl f_160)), (r4, .inr (0, [.ref j4, .int (nI L4.length)])), (j4, .inl (cI, 30, .inl f4))]) [0, 5, 6, 3, 4, 7, 8, 1, 2] rfl
            have hD9 := hD.sub (ws' := [(sh, .inr (1, [.ref r1, .ref r2, .ref r3, .ref r4, .int (nI rc), .int (nI bo), .int (lst L1)])), (r1, .inr (0, [.ref j1, .int (nI L1.dropLast.length)])), (j1, .inl (cI, 30, .inl f_153)), (r2, .inr (0, [.ref j2, .int (nI L2.length)])), (j2, .inl (cI, 30, .inl f2)), (r3, .inr (0, [.ref j3, .int (nI (((lst L1) :: L3).length))])), (j3, .inl (cI, 30, .inl f_160)), (r4, .inr (0, [.ref j4, .int (nI L4.length)])), (j4, .inl (cI, 30, .inl f4))]) [0, 5, 6, 3, 4, 7, 8, 1, 2] (by decide) rfl
            exact W.vret hx hb hr (fun t ht hW => ⟨⟨((L1.dropLast, L2, ((lst L1) :: L3), L4), (lst L1)), rfl, (room_b (by omega) (by omega) (Or.inl (Or.inr ⟨by omega, hff⟩)) lv), _, _, _, _, hf_154, hR2, hf_161, hR4, g_at hP9 hK hD9 ht hW⟩, hS.F ht⟩) hS.2.2 dX1_makeRoom_138
  · have hP9 := hP.sub (ws' := [(sh, .inr (1, [.ref r1, .ref r2, .ref r3, .ref r4, .int (nI rc), .int (nI bo), .int lv])), (r1, .inr (0, [.ref j1, .int (nI L1.length)])), (j1, .inl (cI, 30, .inl f1)), (r2, .inr (0, [.ref j2, .int (nI L2.length)])), (j2, .inl (cI, 30, .inl f2)), (r3, .inr (0, [.ref j3, .int (nI L3.length)])), (j3, .inl (cI, 30, .inl f3)), (r4, .inr (0, [.ref j4, .int (nI L4.length)])), (j4, .inl (cI, 30, .inl f4))]) [0, 5, 6, 7, 8, 1, 2, 3, 4] rfl
    have hD9 := hD.sub (ws' := [(sh, .inr (1, [.ref r1, .ref r2, .ref r3, .ref r4, .int (nI rc), .int (nI bo), .int lv])), (r1, .inr (0, [.ref j1, .int (nI L1.length)])), (j1, .inl (cI, 30, .inl f1)), (r2, .inr (0, [.ref j2, .int (nI L2.length)])), (j2, .inl (cI, 30, .inl f2)), (r3, .inr (0, [.ref j3, .int (nI L3.length)])), (j3, .inl (cI, 30, .inl f3)), (r4, .inr (0, [.ref j4, .int (nI L4.length)])), (j4, .inl (cI, 30, .inl f4))]) [0, 5, 6, 7, 8, 1, 2, 3, 4] (by decide) rfl
    exact W.vret hx hb hr (fun t ht hW => ⟨⟨((L1, L2, L3, L4), lv), rfl, (room_a (by omega) lv), _, _, _, _, hR1, hR2, hR3, hR4, g_at hP9 hK hD9 ht hW⟩, hS.F ht⟩) hS.2.2 dX1_makeRoom_24

set_option maxRecDepth 20000 in
theorem iX1_makeWayForNewJar_X1 : ∀ w ∈ wsX10, w ∈ wsX1_makeWayForNewJar := by decide +kernel
set_option maxHeartbeats 4000000 in
set_option maxRecDepth 100000 in
theorem c_X1_makeWayForNewJar (l : Launch) (G : va_G) (cI : ClassId) (sh r1 r2 r3 r4 j1 j2 j3 j4 : Nat) (f1 f2 f3 f4 : Nat → Int32) (L1 L2 L3 L4 : List Int32) (rc bo : Nat) (lv : Int32) (hR1 : Rw f1 L1) (hR2 : Rw f2 L2) (hR3 : Rw f3 L3) (hR4 : Rw f4 L4) (hn : Num rc bo (L1, L2, L3, L4)) (hj : Jrs (L1, L2, L3, L4)) (sz : Nat) : Met l yX1_makeWayForNewJar wsX1_makeWayForNewJar ({ frames := 3, cells := 0, slots := 0, locals := 65 }) (va_Pc [.ref sh] (gpre G [(cI, .int)] [(sh, .inr (1, [.ref r1, .ref r2, .ref r3, .ref r4, .int (nI rc), .int (nI bo), .int lv])), (r1, .inr (0, [.ref j1, .int (nI L1.length)])), (j1, .inl (cI, 30, .inl f1)), (r2, .inr (0, [.ref j2, .int (nI L2.length)])), (j2, .inl (cI, 30, .inl f2)), (r3, .inr (0, [.ref j3, .int (nI L3.length)])), (j3, .inl (cI, 30, .inl f3)), (r4, .inr (0, [.ref j4, .int (nI L4.length)])), (j4, .inl (cI, 30, .inl f4))] sz)) (va_Qv (fun (u : Q4 × Int32) => u = (sNew rc bo (L1, L2, L3, L4), sNewX rc bo (L1, L2, L3, L4) lv)) (fun (u : Q4 × Int32) t => ∃ f1' f2' f3' f4' : Nat → Int32, Rw f1' u.1.1 ∧ Rw f2' u.1.2.1 ∧ Rw f3' u.1.2.2.1 ∧ Rw f4' u.1.2.2.2 ∧ gat G [(cI, .int)] (va_A [(sh, .inr (1, [.ref r1, .ref r2, .ref r3, .ref r4, .int (nI rc), .int (nI bo), .int lv])), (r1, .inr (0, [.ref j1, .int (nI L1.length)])), (j1, .inl (cI, 30, .inl f1)), (r2, .inr (0, [.ref j2, .int (nI L2.length)])), (j2, .inl (cI, 30, .inl f2)), (r3, .inr (0, [.ref j3, .int (nI L3.length)])), (j3, .inl (cI, 30, .inl f3)), (r4, .inr (0, [.ref j4, .int (nI L4.length)])), (j4, .inl (cI, 30, .inl f4))] sz) [(sh, .inr (1, [.ref r1, .ref r2, .ref r3, .ref r4, .int (nI rc), .int (nI bo), .int u.2])), (r1, .inr (0, [.ref j1, .int (nI u.1.1.length)])), (j1, .inl (cI, 30, .inl f1')), (r2, .inr (0, [.ref j2, .int (nI u.1.2.1.length)])), (j2, .inl (cI, 30, .inl f2')), (r3, .inr (0, [.ref j3, .int (nI u.1.2.2.1.length)])), (j3, .inl (cI, 30, .inl f3')), (r4, .inr (0, [.ref j4, .int (nI u.1.2.2.2.length)])), (j4, .inl (cI, 30, .inl f4'))] t) (va_A [(sh, .inr (1, [.ref r1, .ref r2, .ref r3, .ref r4, .int (nI rc), .int (nI bo), .int lv])), (r1, .inr (0, [.ref j1, .int (nI L1.length)])), (j1, .inl (cI, 30, .inl f1)), (r2, .inr (0, [.ref j2, .int (nI L2.length)])), (j2, .inl (cI, 30, .inl f2)), (r3, .inr (0, [.ref j3, .int (nI L3.length)])), (j3, .inl (cI, 30, .inl f3)), (r4, .inr (0, [.ref j4, .int (nI L4.length)])), (j4, .inl (cI, 30, .inl f4))] sz)) 0 0 (va_A [(sh, .inr (1, [.ref r1, .ref r2, .ref r3, .ref r4, .int (nI rc), .int (nI bo), .int lv])), (r1, .inr (0, [.ref j1, .int (nI L1.length)])), (j1, .inl (cI, 30, .inl f1)), (r2, .inr (0, [.ref j2, .int (nI L2.length)])), (j2, .inl (cI, 30, .inl f2)), (r3, .inr (0, [.ref j3, .int (nI L3.length)])), (j3, .inl (cI, 30, .inl f3)), (r4, .inr (0, [.ref j4, .int (nI L4.length)])), (j4, .inl (cI, 30, .inl f4))] sz) := by
  refine Met.ofW (cc := cX1_makeWayForNewJar) (maxL := 3) (ret := none) (by decide) rfl ?_
  intro p e s m args below meth c s₁ B hml hv
  obtain ⟨rfl, hsz, hP, hK, hD0⟩ := hv
  have hx := B.exec
  have hb := B.bytes
  have hr := B.returns
  have hts := atoms_spec (ws := wsX1_makeWayForNewJar) B.pre
  have hown : s.vm.findClass RX1 = some m.cls := findClass_of_methodNamed B.named
  have hlocks := B.notSynchronized
  subst hsz
  have hD := hD0.self (sz := s.heap.size)
  clear hD0
  generalize hAe : va_A [(sh, .inr (1, [.ref r1, .ref r2, .ref r3, .ref r4, .int (nI rc), .int (nI bo), .int lv])), (r1, .inr (0, [.ref j1, .int (nI L1.length)])), (j1, .inl (cI, 30, .inl f1)), (r2, .inr (0, [.ref j2, .int (nI L2.length)])), (j2, .inl (cI, 30, .inl f2)), (r3, .inr (0, [.ref j3, .int (nI L3.length)])), (j3, .inl (cI, 30, .inl f3)), (r4, .inr (0, [.ref j4, .int (nI L4.length)])), (j4, .inl (cI, 30, .inl f4))] s.heap.size = A at hD ⊢
  have hA : ∀ q : Nat, s.heap.size ≤ q → A q := fun q h => by rw [← hAe]; exact Or.inr h
  have hS : va_S A s.heap s.heap [] := va_S.rf
  have hP : va_P G vwCl [(sh, .inr (1, [.ref r1, .ref r2, .ref r3, .ref r4, .int (nI rc), .int (nI bo), .int lv])), (r1, .inr (0, [.ref j1, .int (nI L1.length)])), (j1, .inl (cI, 30, .inl f1)), (r2, .inr (0, [.ref j2, .int (nI L2.length)])), (j2, .inl (cI, 30, .inl f2)), (r3, .inr (0, [.ref j3, .int (nI L3.length)])), (j3, .inl (cI, 30, .inl f3)), (r4, .inr (0, [.ref j4, .int (nI L4.length)])), (j4, .inl (cI, 30, .inl f4))] s.heap := hP
  have hl := lv_entry ([.ref sh]) (n := 3) (Nat.le_of_ble_eq_true rfl)
  rw [lg_entry_eq]
  generalize (lg_sl ([.ref sh]) ++ List.replicate (3 - (lg_sl ([.ref sh])).length) Slot.unset).toArray = ls at hl ⊢
  have hl : lv_has ls 3 [(0, .ref sh)] := hl
  obtain ⟨hn1, hn2, hn3, hn4, hn5, hn6⟩ : 1 ≤ rc ∧ rc ≤ 12 ∧ bo ≤ rc ∧ L1.length + L2.length ≤ rc ∧ L1.length + L3.length ≤ rc ∧ L1.length + L2.length + L3.length + L4.length ≤ 2 * rc := hn
  obtain ⟨hj1, hj2, hj3, hj4⟩ : allOk L1 ∧ allOk L2 ∧ allOk L3 ∧ allOk L4 := hj
  refine lv_aload_n hx hb dX1_makeWayForNewJar_0 rfl (lv_at hl 0 rfl) ?_
  refine va_get (D := G) (ci := 1) (v := .ref r1) (C := RX1) (T := TX1) (N := 7) hx hb hts iX1_makeWayForNewJar_X1 hown hK hP 0 rfl rfl 0 (by decide) (hts (.fieldLink RX1 14 "GhostPantry$Shelves" "recent" "LGhostPantry$Row;") (by decide +kernel)) (fun _ h9 => h9) rfl dX1_makeWayForNewJar_1 ?_
  have hPc := hP.sub (ws' := [(r1, .inr (0, [.ref j1, .int (nI L1.length)])), (j1, .inl (cI, 30, .inl f1))]) [1, 2] rfl
  have hDc := hD.sub (ws' := [(r1, .inr (0, [.ref j1, .int (nI L1.length)])), (j1, .inl (cI, 30, .inl f1))]) [1, 2] (by decide) rfl
  have hKc := hK.sub (tys' := [(cI, .int)]) [0] rfl
  have hFc := va_free (wc := [(r1, .inr (0, [.ref j1, .int (nI L1.length)])), (j1, .inl (cI, 30, .inl f1))]) hD hS hA [1, 2] rfl
  refine va_calli (va_runV (As := []) (rest := []) ⟨hx, hb, hml, hown, hts⟩ (c_X0_length l G cI r1 j1 f1 L1 hR1 (by omega)  s.heap.size) (cwV 0 hts gX1_makeWayForNewJar_X0_length rfl rfl rfl (by decide +kernel) ⟨Nat.le_of_ble_eq_true rfl, Nat.le_of_ble_eq_true rfl⟩) (g_preV (As := []) hPc hKc hDc 0 rfl rfl) rfl rfl hl.1 rfl (lv_room (Nat.le_of_ble_eq_true rfl)) dX1_makeWayForNewJar_4 ⟨(Nat.le_of_ble_eq_true rfl), (Nat.le_of_ble_eq_true rfl)⟩) hS (fun q _ h => hFc q h) hFc (fun r_2 u_3 t H_1 locs ht hvm hw hB hz1 hk1 hS1 => ?_)
  subst hw
  obtain ⟨hP1, hD1⟩ := g_join (wc := [(r1, .inr (0, [.ref j1, .int (nI L1.length)])), (j1, .inl (cI, 30, .inl f1))]) (wr := [(sh, .inr (1, [.ref r1, .ref r2, .ref r3, .ref r4, .int (nI rc), .int (nI bo), .int lv])), (r2, .inr (0, [.ref j2, .int (nI L2.length)])), (j2, .inl (cI, 30, .inl f2)), (r3, .inr (0, [.ref j3, .int (nI L3.length)])), (j3, .inl (cI, 30, .inl f3)), (r4, .inr (0, [.ref j4, .int (nI L4.length)])), (j4, .inl (cI, 30, .inl f4))]) (w1 := [(r1, .inr (0, [.ref j1, .int (nI L1.length)])), (j1, .inl (cI, 30, .inl f1))]) hP hD [1, 2] [0, 3, 4, 5, 6, 7, 8] rfl rfl (by decide) (by decide) ht hk1 hFc hB
  clear hB hk1 hz1 hvm ht hPc hDc hKc hFc
  clear hP hD hS
  have hP : va_P G vwCl [(sh, .inr (1, [.ref r1, .ref r2, .ref r3, .ref r4, .int (nI rc), .int (nI bo), .int lv])), (r2, .inr (0, [.ref j2, .int (nI L2.length)])), (j2, .inl (cI, 30, .inl f2)), (r3, .inr (0, [.ref j3, .int (nI L3.length)])), (j3, .inl (cI, 30, .inl f3)), (r4, .inr (0, [.ref j4, .int (nI L4.length)])), (j4, .inl (cI, 30, .inl f4)), (r1, .inr (0, [.ref j1, .int (nI L1.length)])), (j1, .inl (cI, 30, .inl f1))] H_1 := hP1
  have hD : va_D A [(sh, .inr (1, [.ref r1, .ref r2, .ref r3, .ref r4, .int (nI rc), .int (nI bo), .int lv])), (r2, .inr (0, [.ref j2, .int (nI L2.length)])), (j2, .inl (cI, 30, .inl f2)), (r3, .inr (0, [.ref j3, .int (nI L3.length)])), (j3, .inl (cI, 30, .inl f3)), (r4, .inr (0, [.ref j4, .int (nI L4.length)])), (j4, .inl (cI, 30, .inl f4)), (r1, .inr (0, [.ref j1, .int (nI L1.length)])), (j1, .inl (cI, 30, .inl f1))] := hD1
  have hS := hS1
  clear hP1 hD1 hS1
  refine lv_aload_n hx hb dX1_makeWayForNewJar_7 rfl (lv_at hl 0 rfl) ?_
  refine va_get (D := G) (ci := 1) (v := .ref r3) (C := RX1) (T := TX1) (N := 7) hx hb hts iX1_makeWayForNewJar_X1 hown hK hP 0 rfl rfl 2 (by decide) (hts (.fieldLink RX1 23 "GhostPantry$Shelves" "recentGhosts" "LGhostPantry$Row;") (by decide +kernel)) (fun _ h9 => h9) rfl dX1_makeWayForNewJar_8 ?_
  have hPc := hP.sub (ws' := [(r3, .inr (0, [.ref j3, .int (nI L3.length)])), (j3, .inl (cI, 30, .inl f3))]) [3, 4] rfl
  have hDc := hD.sub (ws' := [(r3, .inr (0, [.ref j3, .int (nI L3.length)])), (j3, .inl (cI, 30, .inl f3))]) [3, 4] (by decide) rfl
  have hKc := hK.sub (tys' := [(cI, .int)]) [0] rfl
  have hFc := va_free (wc := [(r3, .inr (0, [.ref j3, .int (nI L3.length)])), (j3, .inl (cI, 30, .inl f3))]) hD hS hA [3, 4] rfl
  refine va_calli (va_runV (As := []) (rest := [.int (nI L1.length)]) ⟨hx, hb, hml, hown, hts⟩ (c_X0_length l G cI r3 j3 f3 L3 hR3 (by omega)  H_1.size) (cwV 0 hts gX1_makeWayForNewJar_X0_length rfl rfl rfl (by decide +kernel) ⟨Nat.le_of_ble_eq_true rfl, Nat.le_of_ble_eq_true rfl⟩) (g_preV (As := []) hPc hKc hDc 0 rfl rfl) rfl rfl hl.1 rfl (lv_room (Nat.le_of_ble_eq_true rfl)) dX1_makeWayForNewJar_11 ⟨(Nat.le_of_ble_eq_true rfl), (Nat.le_of_ble_eq_true rfl)⟩) hS (fun q _ h => hFc q h) hFc (fun r_5 u_6 t H_4 locs ht hvm hw hB hz1 hk1 hS1 => ?_)
  subst hw
  obtain ⟨hP1, hD1⟩ := g_join (wc := [(r3, .inr (0, [.ref j3, .int (nI L3.length)])), (j3, .inl (cI, 30, .inl f3))]) (wr := [(sh, .inr (1, [.ref r1, .ref r2, .ref r3, .ref r4, .int (nI rc), .int (nI bo), .int lv])), (r2, .inr (0, [.ref j2, .int (nI L2.length)])), (j2, .inl (cI, 30, .inl f2)), (r4, .inr (0, [.ref j4, .int (nI L4.length)])), (j4, .inl (cI, 30, .inl f4)), (r1, .inr (0, [.ref j1, .int (nI L1.length)])), (j1, .inl (cI, 30, .inl f1))]) (w1 := [(r3, .inr (0, [.ref j3, .int (nI L3.length)])), (j3, .inl (cI, 30, .inl f3))]) hP hD [3, 4] [0, 1, 2, 5, 6, 7, 8] rfl rfl (by decide) (by decide) ht hk1 hFc hB
  clear hB hk1 hz1 hvm ht hPc hDc hKc hFc
  clear hP hD hS
  have hP : va_P G vwCl [(sh, .inr (1, [.ref r1, .ref r2, .ref r3, .ref r4, .int (nI rc), .int (nI bo), .int lv])), (r2, .inr (0, [.ref j2, .int (nI L2.length)])), (j2, .inl (cI, 30, .inl f2)), (r4, .inr (0, [.ref j4, .int (nI L4.length)])), (j4, .inl (cI, 30, .inl f4)), (r1, .inr (0, [.ref j1, .int (nI L1.length)])), (j1, .inl (cI, 30, .inl f1)), (r3, .inr (0, [.ref j3, .int (nI L3.length)])), (j3, .inl (cI, 30, .inl f3))] H_4 := hP1
  have hD : va_D A [(sh, .inr (1, [.ref r1, .ref r2, .ref r3, .ref r4, .int (nI rc), .int (nI bo), .int lv])), (r2, .inr (0, [.ref j2, .int (nI L2.length)])), (j2, .inl (cI, 30, .inl f2)), (r4, .inr (0, [.ref j4, .int (nI L4.length)])), (j4, .inl (cI, 30, .inl f4)), (r1, .inr (0, [.ref j1, .int (nI L1.length)])), (j1, .inl (cI, 30, .inl f1)), (r3, .inr (0, [.ref j3, .int (nI L3.length)])), (j3, .inl (cI, 30, .inl f3))] := hD1
  have hS := hS1
  clear hP1 hD1 hS1
  refine g_iadd hx hb dX1_makeWayForNewJar_14 ?_
  refine lv_istore_n (lv' := [(1, .int (nI (L1.length + L3.length))), (0, .ref sh)]) hx hb dX1_makeWayForNewJar_15 rfl hl (by decide) rfl (fun ls hl => ?_)
  refine lv_iload_n hx hb dX1_makeWayForNewJar_16 rfl (lv_at hl 0 rfl) ?_
  refine lv_aload_n hx hb dX1_makeWayForNewJar_17 rfl (lv_at hl 1 rfl) ?_
  refine va_get (D := G) (ci := 1) (v := .ref r2) (C := RX1) (T := TX1) (N := 7) hx hb hts iX1_makeWayForNewJar_X1 hown hK hP 0 rfl rfl 1 (by decide) (hts (.fieldLink RX1 20 "GhostPantry$Shelves" "frequent" "LGhostPantry$Row;") (by decide +kernel)) (fun _ h9 => h9) rfl dX1_makeWayForNewJar_18 ?_
  have hPc := hP.sub (ws' := [(r2, .inr (0, [.ref j2, .int (nI L2.length)])), (j2, .inl (cI, 30, .inl f2))]) [1, 2] rfl
  have hDc := hD.sub (ws' := [(r2, .inr (0, [.ref j2, .int (nI L2.length)])), (j2, .inl (cI, 30, .inl f2))]) [1, 2] (by decide) rfl
  have hKc := hK.sub (tys' := [(cI, .int)]) [0] rfl
  have hFc := va_free (wc := [(r2, .inr (0, [.ref j2, .int (nI L2.length)])), (j2, .inl (cI, 30, .inl f2))]) hD hS hA [1, 2] rfl
  refine va_calli (va_runV (As := []) (rest := [.int (nI (L1.length + L3.length))]) ⟨hx, hb, hml, hown, hts⟩ (c_X0_length l G cI r2 j2 f2 L2 hR2 (by omega)  H_4.size) (cwV 0 hts gX1_makeWayForNewJar_X0_length rfl rfl rfl (by decide +kernel) ⟨Nat.le_of_ble_eq_true rfl, Nat.le_of_ble_eq_true rfl⟩) (g_preV (As := []) hPc hKc hDc 0 rfl rfl) rfl rfl hl.1 rfl (lv_room (Nat.le_of_ble_eq_true rfl)) dX1_makeWayForNewJar_21 ⟨(Nat.le_of_ble_eq_true rfl), (Nat.le_of_ble_eq_true rfl)⟩) hS (fun q _ h => hFc q h) hFc (fun r_8 u_9 t H_7 locs ht hvm hw hB hz1 hk1 hS1 => ?_)
  subst hw
  obtain ⟨hP1, hD1⟩ := g_join (wc := [(r2, .inr (0, [.ref j2, .int (nI L2.length)])), (j2, .inl (cI, 30, .inl f2))]) (wr := [(sh, .inr (1, [.ref r1, .ref r2, .ref r3, .ref r4, .int (nI rc), .int (nI bo), .int lv])), (r4, .inr (0, [.ref j4, .int (nI L4.length)])), (j4, .inl (cI, 30, .inl f4)), (r1, .inr (0, [.ref j1, .int (nI L1.length)])), (j1, .inl (cI, 30, .inl f1)), (r3, .inr (0, [.ref j3, .int (nI L3.length)])), (j3, .inl (cI, 30, .inl f3))]) (w1 := [(r2, .inr (0, [.ref j2, .int (nI L2.length)])), (j2, .inl (cI, 30, .inl f2))]) hP hD [1, 2] [0, 3, 4, 5, 6, 7, 8] rfl rfl (by decide) (by decide) ht hk1 hFc hB
  clear hB hk1 hz1 hvm ht hPc hDc hKc hFc
  clear hP hD hS
  have hP : va_P G vwCl [(sh, .inr (1, [.ref r1, .ref r2, .ref r3, .ref r4, .int (nI rc), .int (nI bo), .int lv])), (r4, .inr (0, [.ref j4, .int (nI L4.length)])), (j4, .inl (cI, 30, .inl f4)), (r1, .inr (0, [.ref j1, .int (nI L1.length)])), (j1, .inl (cI, 30, .inl f1)), (r3, .inr (0, [.ref j3, .int (nI L3.length)])), (j3, .inl (cI, 30, .inl f3)), (r2, .inr (0, [.ref j2, .int (nI L2.length)])), (j2, .inl (cI, 30, .inl f2))] H_7 := hP1
  have hD : va_D A [(sh, .inr (1, [.ref r1, .ref r2, .ref r3, .ref r4, .int (nI rc), .int (nI bo), .int lv])), (r4, .inr (0, [.ref j4, .int (nI L4.length)])), (j4, .inl (cI, 30, .inl f4)), (r1, .inr (0, [.ref j1, .int (nI L1.length)])), (j1, .inl (cI, 30, .inl f1)), (r3, .inr (0, [.ref j3, .int (nI L3.length)])), (j3, .inl (cI, 30, .inl f3)), (r2, .inr (0, [.ref j2, .int (nI L2.length)])), (j2, .inl (cI, 30, .inl f2))] := hD1
  have hS := hS1
  clear hP1 hD1 hS1
  refine g_iadd hx hb dX1_makeWayForNewJar_24 ?_
  refine lv_aload_n hx hb dX1_makeWayForNewJar_25 rfl (lv_at hl 1 rfl) ?_
  refine va_get (D := G) (ci := 1) (v := .ref r4) (C := RX1) (T := TX1) (N := 7) hx hb hts iX1_makeWayForNewJar_X1 hown hK hP 0 rfl rfl 3 (by decide) (hts (.fieldLink RX1 26 "GhostPantry$Shelves" "frequentGhosts" "LGhostPantry$Row;") (by decide +kernel)) (fun _ h9 => h9) rfl dX1_makeWayForNewJar_26 ?_
  have hPc := hP.sub (ws' := [(r4, .inr (0, [.ref j4, .int (nI L4.length)])), (j4, .inl (cI, 30, .inl f4))]) [1, 2] rfl
  have hDc := hD.sub (ws' := [(r4, .inr (0, [.ref j4, .int (nI L4.length)])), (j4, .inl (cI, 30, .inl f4))]) [1, 2] (by decide) rfl
  have hKc := hK.sub (tys' := [(cI, .int)]) [0] rfl
  have hFc := va_free (wc := [(r4, .inr (0, [.ref j4, .int (nI L4.length)])), (j4, .inl (cI, 30, .inl f4))]) hD hS hA [1, 2] rfl
  refine va_calli (va_runV (As := []) (rest := [.int (nI ((L1.length + L3.length) + L2.length))]) ⟨hx, hb, hml, hown, hts⟩ (c_X0_length l G cI r4 j4 f4 L4 hR4 (by omega)  H_7.size) (cwV 0 hts gX1_makeWayForNewJar_X0_length rfl rfl rfl (by decide +kernel) ⟨Nat.le_of_ble_eq_true rfl, Nat.le_of_ble_eq_true rfl⟩) (g_preV (As := []) hPc hKc hDc 0 rfl rfl) rfl rfl hl.1 rfl (lv_room (Nat.le_of_ble_eq_true rfl)) dX1_makeWayForNewJar_29 ⟨(Nat.le_of_ble_eq_true rfl), (Nat.le_of_ble_eq_true rfl)⟩) hS (fun q _ h => hFc q h) hFc (fun r_11 u_12 t H_10 locs ht hvm hw hB hz1 hk1 hS1 => ?_)
  subst hw
  obtain ⟨hP1, hD1⟩ := g_join (wc := [(r4, .inr (0, [.ref j4, .int (nI L4.length)])), (j4, .inl (cI, 30, .inl f4))]) (wr := [(sh, .inr (1, [.ref r1, .ref r2, .ref r3, .ref r4, .int (nI rc), .int (nI bo), .int lv])), (r1, .inr (0, [.ref j1, .int (nI L1.length)])), (j1, .inl (cI, 30, .inl f1)), (r3, .inr (0, [.ref j3, .int (nI L3.length)])), (j3, .inl (cI, 30, .inl f3)), (r2, .inr (0, [.ref j2, .int (nI L2.length)])), (j2, .inl (cI, 30, .inl f2))]) (w1 := [(r4, .inr (0, [.ref j4, .int (nI L4.length)])), (j4, .inl (cI, 30, .inl f4))]) hP hD [1, 2] [0, 3, 4, 5, 6, 7, 8] rfl rfl (by decide) (by decide) ht hk1 hFc hB
  clear hB hk1 hz1 hvm ht hPc hDc hKc hFc
  clear hP hD hS
  have hP : va_P G vwCl [(sh, .inr (1, [.ref r1, .ref r2, .ref r3, .ref r4, .int (nI rc), .int (nI bo), .int lv])), (r1, .inr (0, [.ref j1, .int (nI L1.length)])), (j1, .inl (cI, 30, .inl f1)), (r3, .inr (0, [.ref j3, .int (nI L3.length)])), (j3, .inl (cI, 30, .inl f3)), (r2, .inr (0, [.ref j2, .int (nI L2.length)])), (j2, .inl (cI, 30, .inl f2)), (r4, .inr (0, [.ref j4, .int (nI L4.length)])), (j4, .inl (cI, 30, .inl f4))] H_10 := hP1
  have hD : va_D A [(sh, .inr (1, [.ref r1, .ref r2, .ref r3, .ref r4, .int (nI rc), .int (nI bo), .int lv])), (r1, .inr (0, [.ref j1, .int (nI L1.length)])), (j1, .inl (cI, 30, .inl f1)), (r3, .inr (0, [.ref j3, .int (nI L3.length)])), (j3, .inl (cI, 30, .inl f3)), (r2, .inr (0, [.ref j2, .int (nI L2.length)])), (j2, .inl (cI, 30, .inl f2)), (r4, .inr (0, [.ref j4, .int (nI L4.length)])), (j4, .inl (cI, 30, .inl f4))] := hD1
  have hS := hS1
  clear hP1 hD1 hS1
  refine g_iadd hx hb dX1_makeWayForNewJar_32 ?_
  refine lv_istore_n (lv' := [(2, .int (nI (((L1.length + L3.length) + L2.length) + L4.length))), (1, .int (nI (L1.length + L3.length))), (0, .ref sh)]) hx hb dX1_makeWayForNewJar_33 rfl hl (by decide) rfl (fun ls hl => ?_)
  refine lv_iload_n hx hb dX1_makeWayForNewJar_34 rfl (lv_at hl 1 rfl) ?_
  refine lv_aload_n hx hb dX1_makeWayForNewJar_35 rfl (lv_at hl 2 rfl) ?_
  refine va_get (D := G) (ci := 1) (v := .int (nI rc)) (C := RX1) (T := TX1) (N := 7) hx hb hts iX1_makeWayForNewJar_X1 hown hK hP 0 rfl rfl 4 (by decide) (hts (.fieldLink RX1 29 "GhostPantry$Shelves" "room" "I") (by decide +kernel)) (fun _ h9 => h9) rfl dX1_makeWayForNewJar_36 ?_
  refine g_icmp_ne (tgt := 82) hx hb dX1_makeWayForNewJar_39 (by decide) (by omega) (by omega) (fun c_13 => ?_) (fun c_13 => ?_)
  · refine lv_iload_n hx hb dX1_makeWayForNewJar_82 rfl (lv_at hl 0 rfl) ?_
    refine lv_aload_n hx hb dX1_makeWayForNewJar_83 rfl (lv_at hl 2 rfl) ?_
    refine va_get (D := G) (ci := 1) (v := .int (nI rc)) (C := RX1) (T := TX1) (N := 7) hx hb hts iX1_makeWayForNewJar_X1 hown hK hP 0 rfl rfl 4 (by decide) (hts (.fieldLink RX1 29 "GhostPantry$Shelves" "room" "I") (by decide +kernel)) (fun _ h9 => h9) rfl dX1_makeWayForNewJar_84 ?_
    refine g_icmp_lt (tgt := 113) hx hb dX1_makeWayForNewJar_87 (by decide) (by omega) (by omega) (fun c_14 => ?_) (fun c_14 => ?_)
    · have hP9 := hP.sub (ws' := [(sh, .inr (1, [.ref r1, .ref r2, .ref r3, .ref r4, .int (nI rc), .int (nI bo), .int lv])), (r1, .inr (0, [.ref j1, .int (nI L1.length)])), (j1, .inl (cI, 30, .inl f1)), (r2, .inr (0, [.ref j2, .int (nI L2.length)])), (j2, .inl (cI, 30, .inl f2)), (r3, .inr (0, [.ref j3, .int (nI L3.length)])), (j3, .inl (cI, 30, .inl f3)), (r4, .inr (0, [.ref j4, .int (nI L4.length)])), (j4, .inl (cI, 30, .inl f4))]) [0, 1, 2, 5, 6, 3, 4, 7, 8] rfl
      have hD9 := hD.sub (ws' := [(sh, .inr (1, [.ref r1, .ref r2, .ref r3, .ref r4, .int (nI rc), .int (nI bo), .int lv])), (r1, .inr (0, [.ref j1, .int (nI L1.length)])), (j1, .inl (cI, 30, .inl f1)), (r2, .inr (0, [.ref j2, .int (nI L2.length)])), (j2, .inl (cI, 30, .inl f2)), (r3, .inr (0, [.ref j3, .int (nI L3.length)])), (j3, .inl (cI, 30, .inl f3)), (r4, .inr (0, [.ref j4, .int (nI L4.length)])), (j4, .inl (cI, 30, .inl f4))]) [0, 1, 2, 5, 6, 3, 4, 7, 8] (by decide) rfl
      exact W.vret hx hb hr (fun t ht hW => ⟨⟨((L1, L2, L3, L4), lv), rfl, (new_e (by omega) (by omega)), _, _, _, _, hR1, hR2, hR3, hR4, g_at hP9 hK hD9 ht hW⟩, hS.F ht⟩) hS.2.2 dX1_makeWayForNewJar_113
    · refine lv_iload_n hx hb dX1_makeWayForNewJar_90 rfl (lv_at hl 0 rfl) ?_
      refine lv_iconst (v := (nI 2)) hx hb dX1_makeWayForNewJar_91 (by decide +kernel) ?_
      refine lv_aload_n hx hb dX1_makeWayForNewJar_92 rfl (lv_at hl 2 rfl) ?_
      refine va_get (D := G) (ci := 1) (v := .int (nI rc)) (C := RX1) (T := TX1) (N := 7) hx hb hts iX1_makeWayForNewJar_X1 hown hK hP 0 rfl rfl 4 (by decide) (hts (.fieldLink RX1 29 "GhostPantry$Shelves" "room" "I") (by decide +kernel)) (fun _ h9 => h9) rfl dX1_makeWayForNewJar_93 ?_
      refine g_imul hx hb dX1_makeWayForNewJar_96 ?_
      refine g_icmp_ne (tgt := 108) hx hb dX1_makeWayForNewJar_97 (by decide) (by omega) (by omega) (fun c_15 => ?_) (fun c_15 => ?_)
      · have hn_16 : Num rc bo (L1, L2, L3, L4) := by simp only [Num, List.length_dropLast]; omega
        refine lv_aload_n hx hb dX1_makeWayForNewJar_108 rfl (lv_at hl 2 rfl) ?_
        refine lv_iconst (v := (nI 0)) hx hb dX1_makeWayForNewJar_109 (by decide +kernel) ?_
        have hPc := hP.sub (ws' := [(sh, .inr (1, [.ref r1, .ref r2, .ref r3, .ref r4, .int (nI rc), .int (nI bo), .int lv])), (r1, .inr (0, [.ref j1, .int (nI L1.length)])), (j1, .inl (cI, 30, .inl f1)), (r2, .inr (0, [.ref j2, .int (nI L2.length)])), (j2, .inl (cI, 30, .inl f2)), (r3, .inr (0, [.ref j3, .int (nI L3.length)])), (j3, .inl (cI, 30, .inl f3)), (r4, .inr (0, [.ref j4, .int (nI L4.length)])), (j4, .inl (cI, 30, .inl f4))]) [0, 1, 2, 5, 6, 3, 4, 7, 8] rfl
        have hDc := hD.sub (ws' := [(sh, .inr (1, [.ref r1, .ref r2, .ref r3, .ref r4, .int (nI rc), .int (nI bo), .int lv])), (r1, .inr (0, [.ref j1, .int (nI L1.length)])), (j1, .inl (cI, 30, .inl f1)), (r2, .inr (0, [.ref j2, .int (nI L2.length)])), (j2, .inl (cI, 30, .inl f2)), (r3, .inr (0, [.ref j3, .int (nI L3.length)])), (j3, .inl (cI, 30, .inl f3)), (r4, .inr (0, [.ref j4, .int (nI L4.length)])), (j4, .inl (cI, 30, .inl f4))]) [0, 1, 2, 5, 6, 3, 4, 7, 8] (by decide) rfl
        have hKc := hK.sub (tys' := [(cI, .int)]) [0] rfl
        have hFc := va_free (wc := [(sh, .inr (1, [.ref r1, .ref r2, .ref r3, .ref r4, .int (nI rc), .int (nI bo), .int lv])), (r1, .inr (0, [.ref j1, .int (nI L1.length)])), (j1, .inl (cI, 30, .inl f1)), (r2, .inr (0, [.ref j2, .int (nI L2.length)])), (j2, .inl (cI, 30, .inl f2)), (r3, .inr (0, [.ref j3, .int (nI L3.length)])), (j3, .inl (cI, 30, .inl f3)), (r4, .inr (0, [.ref j4, .int (nI L4.length)])), (j4, .inl (cI, 30, .inl f4))]) hD hS hA [0, 1, 2, 5, 6, 3, 4, 7, 8] rfl
        refine va_callv (va_runV (As := [.int (nI 0)]) (rest := []) ⟨hx, hb, hml, hown, hts⟩ (c_X1_makeRoom l G cI sh r1 r2 r3 r4 j1 j2 j3 j4 f1 f2 f3 f4 L1 L2 L3 L4 rc bo lv hR1 hR2 hR3 hR4 hn_16 ⟨hj1, hj2, hj3, hj4⟩ false H_10.size) (cwV 1 hts gX1_makeWayForNewJar_X1_makeRoom rfl rfl rfl (by decide +kernel) ⟨Nat.le_of_ble_eq_true rfl, Nat.le_of_ble_eq_true rfl⟩) (g_preV (As := [.int (nI 0)]) hPc hKc hDc 0 rfl rfl) rfl rfl hl.1 rfl (lv_room (Nat.le_of_ble_eq_true rfl)) dX1_makeWayForNewJar_110 ⟨(Nat.le_of_ble_eq_true rfl), (Nat.le_of_ble_eq_true rfl)⟩) hS (fun q _ h => hFc q h) hFc (fun u_33 t H_31 locs ht hvm hw hB hz1 hk1 hS1 => ?_)
        obtain ⟨⟨M_17, M_18, M_19, M_20⟩, x_29⟩ := u_33
        obtain ⟨f_21, f_22, f_23, f_24, hf_25, hf_26, hf_27, hf_28, hB⟩ := hB
        have hf_25 : Rw f_21 M_17 := hf_25
        have hf_26 : Rw f_22 M_18 := hf_26
        have hf_27 : Rw f_23 M_19 := hf_27
        have hf_28 : Rw f_24 M_20 := hf_28
        have hqz_30 : (M_17, M_18, M_19, M_20) = sRoom rc bo false (L1, L2, L3, L4) := congrArg Prod.fst hw
        have hxz_30 : x_29 = sRoomX rc bo false (L1, L2, L3, L4) lv := congrArg Prod.snd hw
        have az_30 := room_lt (ff := false) hn_16
        rw [← hqz_30] at az_30
        have bz_30 := room_sum (ff := false) hn_16
        rw [← hqz_30] at bz_30
        dsimp only at az_30 bz_30
        obtain ⟨bz_301, bz_302, bz_303, bz_304⟩ := bz_30
        obtain ⟨hP1, hD1⟩ := g_join (wc := [(sh, .inr (1, [.ref r1, .ref r2, .ref r3, .ref r4, .int (nI rc), .int (nI bo), .int lv])), (r1, .inr (0, [.ref j1, .int (nI L1.length)])), (j1, .inl (cI, 30, .inl f1)), (r2, .inr (0, [.ref j2, .int (nI L2.length)])), (j2, .inl (cI, 30, .inl f2)), (r3, .inr (0, [.ref j3, .int (nI L3.length)])), (j3, .inl (cI, 30, .inl f3)), (r4, .inr (0, [.ref j4, .int (nI L4.length)])), (j4, .inl (cI, 30, .inl f4))]) (wr := []) (w1 := [(sh, .inr (1, [.ref r1, .ref r2, .ref r3, .ref r4, .int (nI rc), .int (nI bo), .int x_29])), (r1, .inr (0, [.ref j1, .int (nI M_17.length)])), (j1, .inl (cI, 30, .inl f_21)), (r2, .inr (0, [.ref j2, .int (nI M_18.length)])), (j2, .inl (cI, 30, .inl f_22)), (r3, .inr (0, [.ref j3, .int (nI M_19.length)])), (j3, .inl (cI, 30, .inl f_23)), (r4, .inr (0, [.ref j4, .int (nI M_20.length)])), (j4, .inl (cI, 30, .inl f_24))]) hP hD [0, 1, 2, 5, 6, 3, 4, 7, 8] [] rfl rfl (by decide) (by decide) ht hk1 hFc hB
        clear hB hk1 hz1 hvm ht hPc hDc hKc hFc
        clear hP hD hS
        have hP : va_P G vwCl [(sh, .inr (1, [.ref r1, .ref r2, .ref r3, .ref r4, .int (nI rc), .int (nI bo), .int x_29])), (r1, .inr (0, [.ref j1, .int (nI M_17.length)])), (j1, .inl (cI, 30, .inl f_21)), (r2, .inr (0, [.ref j2, .int (nI M_18.length)])), (j2, .inl (cI, 30, .inl f_22)), (r3, .inr (0, [.ref j3, .int (nI M_19.length)])), (j3, .inl (cI, 30, .inl f_23)), (r4, .inr (0, [.ref j4, .int (nI M_20.length)])), (j4, .inl (cI, 30, .inl f_24))] H_31 := hP1
        have hD : va_D A [(sh, .inr (1, [.ref r1, .ref r2, .ref r3, .ref r4, .int (nI rc), .int (nI bo), .int x_29])), (r1, .inr (0, [.ref j1, .int (nI M_17.length)])), (j1, .inl (cI, 30, .inl f_21)), (r2, .inr (0, [.ref j2, .int (nI M_18.length)])), (j2, .inl (cI, 30, .inl f_22)), (r3, .inr (0, [.ref j3, .int (nI M_19.length)])), (j3, .inl (cI, 30, .inl f_23)), (r4, .inr (0, [.ref j4, .int (nI M_20.length)])), (j4, .inl (cI, 30, .inl f_24))] := hD1
        have hS := hS1
        clear hP1 hD1 hS1
        have hP9 := hP.sub (ws' := [(sh, .inr (1, [.ref r1, .ref r2, .ref r3, .ref r4, .int (nI rc), .int (nI bo), .int x_29])), (r1, .inr (0, [.ref j1, .int (nI M_17.length)])), (j1, .inl (cI, 30, .inl f_21)), (r2, .inr (0, [.ref j2, .int (nI M_18.length)])), (j2, .inl (cI, 30, .inl f_22)), (r3, .inr (0, [.ref j3, .int (nI M_19.length)])), (j3, .inl (cI, 30, .inl f_23)), (r4, .inr (0, [.ref j4, .int (nI M_20.length)])), (j4, .inl (cI, 30, .inl f_24))]) [0, 1, 2, 3, 4, 5, 6, 7, 8] rfl
        have hD9 := hD.sub (ws' := [(sh, .inr (1, [.ref r1, .ref r2, .ref r3, .ref r4, .int (nI rc), .int (nI bo), .int x_29])), (r1, .inr (0, [.ref j1, .int (nI M_17.length)])), (j1, .inl (cI, 30, .inl f_21)), (r2, .inr (0, [.ref j2, .int (nI M_18.length)])), (j2, .inl (cI, 30, .inl f_22)), (r3, .inr (0, [.ref j3, .int (nI M_19.length)])), (j3, .inl (cI, 30, .inl f_23)), (r4, .inr (0, [.ref j4, .int (nI M_20.length)])), (j4, .inl (cI, 30, .inl f_24))]) [0, 1, 2, 3, 4, 5, 6, 7, 8] (by decide) rfl
        exact W.vret hx hb hr (fun t ht hW => ⟨⟨((M_17, M_18, M_19, M_20), x_29), rfl, (new_d (by omega) (by omega) (by omega) (by rw [hqz_30, hxz_30])), _, _, _, _, hf_25, hf_26, hf_27, hf_28, g_at hP9 hK hD9 ht hW⟩, hS.F ht⟩) hS.2.2 dX1_makeWayForNewJar_113
      · refine lv_aload_n hx hb dX1_makeWayForNewJar_100 rfl (lv_at hl 2 rfl) ?_
        refine va_get (D := G) (ci := 1) (v := .ref r4) (C := RX1) (T := TX1) (N := 7) hx hb hts iX1_makeWayForNewJar_X1 hown hK hP 0 rfl rfl 3 (by decide) (hts (.fieldLink RX1 26 "GhostPantry$Shelves" "frequentGhosts" "LGhostPantry$Row;") (by decide +kernel)) (fun _ h9 => h9) rfl dX1_makeWayForNewJar_101 ?_
        have hPc := hP.sub (ws' := [(r4, .inr (0, [.ref j4, .int (nI L4.length)])), (j4, .inl (cI, 30, .inl f4))]) [7, 8] rfl
        have hDc := hD.sub (ws' := [(r4, .inr (0, [.ref j4, .int (nI L4.length)])), (j4, .inl (cI, 30, .inl f4))]) [7, 8] (by decide) rfl
        have hKc := hK.sub (tys' := [(cI, .int)]) [0] rfl
        have hFc := va_free (wc := [(r4, .inr (0, [.ref j4, .int (nI L4.length)])), (j4, .inl (cI, 30, .inl f4))]) hD hS hA [7, 8] rfl
        refine va_calli (va_runV (As := []) (rest := []) ⟨hx, hb, hml, hown, hts⟩ (c_X0_takeLast l G cI r4 j4 f4 L4 hR4 (by omega) (by omega) H_10.size) (cwV 0 hts gX1_makeWayForNewJar_X0_takeLast rfl rfl rfl (by decide +kernel) ⟨Nat.le_of_ble_eq_true rfl, Nat.le_of_ble_eq_true rfl⟩) (g_preV (As := []) hPc hKc hDc 0 rfl rfl) rfl rfl hl.1 rfl (lv_room (Nat.le_of_ble_eq_true rfl)) dX1_makeWayForNewJar_104 ⟨(Nat.le_of_ble_eq_true rfl), (Nat.le_of_ble_eq_true rfl)⟩) hS (fun q _ h => hFc q h) hFc (fun r_37 u_38 t H_36 locs ht hvm hw hB hz1 hk1 hS1 => ?_)
        subst hw
        obtain ⟨f_34, hf_35, hB⟩ := hB
        obtain ⟨hP1, hD1⟩ := g_join (wc := [(r4, .inr (0, [.ref j4, .int (nI L4.length)])), (j4, .inl (cI, 30, .inl f4))]) (wr := [(sh, .inr (1, [.ref r1, .ref r2, .ref r3, .ref r4, .int (nI rc), .int (nI bo), .int lv])), (r1, .inr (0, [.ref j1, .int (nI L1.length)])), (j1, .inl (cI, 30, .inl f1)), (r3, .inr (0, [.ref j3, .int (nI L3.length)])), (j3, .inl (cI, 30, .inl f3)), (r2, .inr (0, [.ref j2, .int (nI L2.length)])), (j2, .inl (cI, 30, .inl f2))]) (w1 := [(r4, .inr (0, [.ref j4, .int (nI L4.dropLast.length)])), (j4, .inl (cI, 30, .inl f_34))]) hP hD [7, 8] [0, 1, 2, 3, 4, 5, 6] rfl rfl (by decide) (by decide) ht hk1 hFc hB
        clear hB hk1 hz1 hvm ht hPc hDc hKc hFc
        clear hP hD hS
        have hP : va_P G vwCl [(sh, .inr (1, [.ref r1, .ref r2, .ref r3, .ref r4, .int (nI rc), .int (nI bo), .int lv])), (r1, .inr (0, [.ref j1, .int (nI L1.length)])), (j1, .inl (cI, 30, .inl f1)), (r3, .inr (0, [.ref j3, .int (nI L3.length)])), (j3, .inl (cI, 30, .inl f3)), (r2, .inr (0, [.ref j2, .int (nI L2.length)])), (j2, .inl (cI, 30, .inl f2)), (r4, .inr (0, [.ref j4, .int (nI L4.dropLast.length)])), (j4, .inl (cI, 30, .inl f_34))] H_36 := hP1
        have hD : va_D A [(sh, .inr (1, [.ref r1, .ref r2, .ref r3, .ref r4, .int (nI rc), .int (nI bo), .int lv])), (r1, .inr (0, [.ref j1, .int (nI L1.length)])), (j1, .inl (cI, 30, .inl f1)), (r3, .inr (0, [.ref j3, .int (nI L3.length)])), (j3, .inl (cI, 30, .inl f3)), (r2, .inr (0, [.ref j2, .int (nI L2.length)])), (j2, .inl (cI, 30, .inl f2)), (r4, .inr (0, [.ref j4, .int (nI L4.dropLast.length)])), (j4, .inl (cI, 30, .inl f_34))] := hD1
        have hS := hS1
        clear hP1 hD1 hS1
        refine lv_pop hx hb dX1_makeWayForNewJar_107 rfl ?_
        have hn_39 : Num rc bo (L1, L2, L3, L4.dropLast) := by simp only [Num, List.length_dropLast]; omega
        refine lv_aload_n hx hb dX1_makeWayForNewJar_108 rfl (lv_at hl 2 rfl) ?_
        refine lv_iconst (v := (nI 0)) hx hb dX1_makeWayForNewJar_109 (by decide +kernel) ?_
        have hPc := hP.sub (ws' := [(sh, .inr (1, [.ref r1, .ref r2, .ref r3, .ref r4, .int (nI rc), .int (nI bo), .int lv])), (r1, .inr (0, [.ref j1, .int (nI L1.length)])), (j1, .inl (cI, 30, .inl f1)), (r2, .inr (0, [.ref j2, .int (nI L2.length)])), (j2, .inl (cI, 30, .inl f2)), (r3, .inr (0, [.ref j3, .int (nI L3.length)])), (j3, .inl (cI, 30, .inl f3)), (r4, .inr (0, [.ref j4, .int (nI L4.dropLast.length)])), (j4, .inl (cI, 30, .inl f_34))]) [0, 1, 2, 5, 6, 3, 4, 7, 8] rfl
        have hDc := hD.sub (ws' := [(sh, .inr (1, [.ref r1, .ref r2, .ref r3, .ref r4, .int (nI rc), .int (nI bo), .int lv])), (r1, .inr (0, [.ref j1, .int (nI L1.length)])), (j1, .inl (cI, 30, .inl f1)), (r2, .inr (0, [.ref j2, .int (nI L2.length)])), (j2, .inl (cI, 30, .inl f2)), (r3, .inr (0, [.ref j3, .int (nI L3.length)])), (j3, .inl (cI, 30, .inl f3)), (r4, .inr (0, [.ref j4, .int (nI L4.dropLast.length)])), (j4, .inl (cI, 30, .inl f_34))]) [0, 1, 2, 5, 6, 3, 4, 7, 8] (by decide) rfl
        have hKc := hK.sub (tys' := [(cI, .int)]) [0] rfl
        have hFc := va_free (wc := [(sh, .inr (1, [.ref r1, .ref r2, .ref r3, .ref r4, .int (nI rc), .int (nI bo), .int lv])), (r1, .inr (0, [.ref j1, .int (nI L1.length)])), (j1, .inl (cI, 30, .inl f1)), (r2, .inr (0, [.ref j2, .int (nI L2.length)])), (j2, .inl (cI, 30, .inl f2)), (r3, .inr (0, [.ref j3, .int (nI L3.length)])), (j3, .inl (cI, 30, .inl f3)), (r4, .inr (0, [.ref j4, .int (nI L4.dropLast.length)])), (j4, .inl (cI, 30, .inl f_34))]) hD hS hA [0, 1, 2, 5, 6, 3, 4, 7, 8] rfl
        refine va_callv (va_runV (As := [.int (nI 0)]) (rest := []) ⟨hx, hb, hml, hown, hts⟩ (c_X1_makeRoom l G cI sh r1 r2 r3 r4 j1 j2 j3 j4 f1 f2 f3 f_34 L1 L2 L3 L4.dropLast rc bo lv hR1 hR2 hR3 hf_35 hn_39 ⟨hj1, hj2, hj3, ok_drop hj4⟩ false H_36.size) (cwV 1 hts gX1_makeWayForNewJar_X1_makeRoom rfl rfl rfl (by decide +kernel) ⟨Nat.le_of_ble_eq_true rfl, Nat.le_of_ble_eq_true rfl⟩) (g_preV (As := [.int (nI 0)]) hPc hKc hDc 0 rfl rfl) rfl rfl hl.1 rfl (lv_room (Nat.le_of_ble_eq_true rfl)) dX1_makeWayForNewJar_110 ⟨(Nat.le_of_ble_eq_true rfl), (Nat.le_of_ble_eq_true rfl)⟩) hS (fun q _ h => hFc q h) hFc (fun u_56 t H_54 locs ht hvm hw hB hz1 hk1 hS1 => ?_)
        obtain ⟨⟨M_40, M_41, M_42, M_43⟩, x_52⟩ := u_56
        obtain ⟨f_44, f_45, f_46, f_47, hf_48, hf_49, hf_50, hf_51, hB⟩ := hB
        have hf_48 : Rw f_44 M_40 := hf_48
        have hf_49 : Rw f_45 M_41 := hf_49
        have hf_50 : Rw f_46 M_42 := hf_50
        have hf_51 : Rw f_47 M_43 := hf_51
        have hqz_53 : (M_40, M_41, M_42, M_43) = sRoom rc bo false (L1, L2, L3, L4.dropLast) := congrArg Prod.fst hw
        have hxz_53 : x_52 = sRoomX rc bo false (L1, L2, L3, L4.dropLast) lv := congrArg Prod.snd hw
        have az_53 := room_lt (ff := false) hn_39
        rw [← hqz_53] at az_53
        have bz_53 := room_sum (ff := false) hn_39
        rw [← hqz_53] at bz_53
        dsimp only at az_53 bz_53
        obtain ⟨bz_531, bz_532, bz_533, bz_534⟩ := bz_53
        obtain ⟨hP1, hD1⟩ := g_join (wc := [(sh, .inr (1, [.ref r1, .ref r2, .ref r3, .ref r4, .int (nI rc), .int (nI bo), .int lv])), (r1, .inr (0, [.ref j1, .int (nI L1.length)])), (j1, .inl (cI, 30, .inl f1)), (r2, .inr (0, [.ref j2, .int (nI L2.length)])), (j2, .inl (cI, 30, .inl f2)), (r3, .inr (0, [.ref j3, .int (nI L3.length)])), (j3, .inl (cI, 30, .inl f3)), (r4, .inr (0, [.ref j4, .int (nI L4.dropLast.length)])), (j4, .inl (cI, 30, .inl f_34))]) (wr := []) (w1 := [(sh, .inr (1, [.ref r1, .ref r2, .ref r3, .ref r4, .int (nI rc), .int (nI bo), .int x_52])), (r1, .inr (0, [.ref j1, .int (nI M_40.length)])), (j1, .inl (cI, 30, .inl f_44)), (r2, .inr (0, [.ref j2, .int (nI M_41.length)])), (j2, .inl (cI, 30, .inl f_45)), (r3, .inr (0, [.ref j3, .int (nI M_42.length)])), (j3, .inl (cI, 30, .inl f_46)), (r4, .inr (0, [.ref j4, .int (nI M_43.length)])), (j4, .inl (cI, 30, .inl f_47))]) hP hD [0, 1, 2, 5, 6, 3, 4, 7, 8] [] rfl rfl (by decide) (by decide) ht hk1 hFc hB
        clear hB hk1 hz1 hvm ht hPc hDc hKc hFc
        clear hP hD hS
        have hP : va_P G vwCl [(sh, .inr (1, [.ref r1, .ref r2, .ref r3, .ref r4, .int (nI rc), .int (nI bo), .int x_52])), (r1, .inr (0, [.ref j1, .int (nI M_40.length)])), (j1, .inl (cI, 30, .inl f_44)), (r2, .inr (0, [.ref j2, .int (nI M_41.length)])), (j2, .inl (cI, 30, .inl f_45)), (r3, .inr (0, [.ref j3, .int (nI M_42.length)])), (j3, .inl (cI, 30, .inl f_46)), (r4, .inr (0, [.ref j4, .int (nI M_43.length)])), (j4, .inl (cI, 30, .inl f_47))] H_54 := hP1
        have hD : va_D A [(sh, .inr (1, [.ref r1, .ref r2, .ref r3, .ref r4, .int (nI rc), .int (nI bo), .int x_52])), (r1, .inr (0, [.ref j1, .int (nI M_40.length)])), (j1, .inl (cI, 30, .inl f_44)), (r2, .inr (0, [.ref j2, .int (nI M_41.length)])), (j2, .inl (cI, 30, .inl f_45)), (r3, .inr (0, [.ref j3, .int (nI M_42.length)])), (j3, .inl (cI, 30, .inl f_46)), (r4, .inr (0, [.ref j4, .int (nI M_43.length)])), (j4, .inl (cI, 30, .inl f_47))] := hD1
        have hS := hS1
        clear hP1 hD1 hS1
        have hP9 := hP.sub (ws' := [(sh, .inr (1, [.ref r1, .ref r2, .ref r3, .ref r4, .int (nI rc), .int (nI bo), .int x_52])), (r1, .inr (0, [.ref j1, .int (nI M_40.length)])), (j1, .inl (cI, 30, .inl f_44)), (r2, .inr (0, [.ref j2, .int (nI M_41.length)])), (j2, .inl (cI, 30, .inl f_45)), (r3, .inr (0, [.ref j3, .int (nI M_42.length)])), (j3, .inl (cI, 30, .inl f_46)), (r4, .inr (0, [.ref j4, .int (nI M_43.length)])), (j4, .inl (cI, 30, .inl f_47))]) [0, 1, 2, 3, 4, 5, 6, 7, 8] rfl
        have hD9 := hD.sub (ws' := [(sh, .inr (1, [.ref r1, .ref r2, .ref r3, .ref r4, .int (nI rc), .int (nI bo), .int x_52])), (r1, .inr (0, [.ref j1, .int (nI M_40.length)])), (j1, .inl (cI, 30, .inl f_44)), (r2, .inr (0, [.ref j2, .int (nI M_41.length)])), (j2, .inl (cI, 30, .inl f_45)), (r3, .inr (0, [.ref j3, .int (nI M_42.length)])), (j3, .inl (cI, 30, .inl f_46)), (r4, .inr (0, [.ref j4, .int (nI M_43.length)])), (j4, .inl (cI, 30, .inl f_47))]) [0, 1, 2, 3, 4, 5, 6, 7, 8] (by decide) rfl
        exact W.vret hx hb hr (fun t ht hW => ⟨⟨((M_40, M_41, M_42, M_43), x_52), rfl, (new_c (by omega) (by omega) (by rw [hqz_53, hxz_53])), _, _, _, _, hf_48, hf_49, hf_50, hf_51, g_at hP9 hK hD9 ht hW⟩, hS.F ht⟩) hS.2.2 dX1_makeWayForNewJar_113
  · refine lv_aload_n hx hb dX1_makeWayForNewJar_42 rfl (lv_at hl 2 rfl) ?_
    refine va_get (D := G) (ci := 1) (v := .ref r3) (C := RX1) (T := TX1) (N := 7) hx hb hts iX1_makeWayForNewJar_X1 hown hK hP 0 rfl rfl 2 (by decide) (hts (.fieldLink RX1 23 "GhostPantry$Shelves" "recentGhosts" "LGhostPantry$Row;") (by decide +kernel)) (fun _ h9 => h9) rfl dX1_makeWayForNewJar_43 ?_
    have hPc := hP.sub (ws' := [(r3, .inr (0, [.ref j3, .int (nI L3.length)])), (j3, .inl (cI, 30, .inl f3))]) [3, 4] rfl
    have hDc := hD.sub (ws' := [(r3, .inr (0, [.ref j3, .int (nI L3.length)])), (j3, .inl (cI, 30, .inl f3))]) [3, 4] (by decide) rfl
    have hKc := hK.sub (tys' := [(cI, .int)]) [0] rfl
    have hFc := va_free (wc := [(r3, .inr (0, [.ref j3, .int (nI L3.length)])), (j3, .inl (cI, 30, .inl f3))]) hD hS hA [3, 4] rfl
    refine va_calli (va_runV (As := []) (rest := []) ⟨hx, hb, hml, hown, hts⟩ (c_X0_length l G cI r3 j3 f3 L3 hR3 (by omega)  H_10.size) (cwV 0 hts gX1_makeWayForNewJar_X0_length rfl rfl rfl (by decide +kernel) ⟨Nat.le_of_ble_eq_true rfl, Nat.le_of_ble_eq_true rfl⟩) (g_preV (As := []) hPc hKc hDc 0 rfl rfl) rfl rfl hl.1 rfl (lv_room (Nat.le_of_ble_eq_true rfl)) dX1_makeWayForNewJar_46 ⟨(Nat.le_of_ble_eq_true rfl), (Nat.le_of_ble_eq_true rfl)⟩) hS (fun q _ h => hFc q h) hFc (fun r_58 u_59 t H_57 locs ht hvm hw hB hz1 hk1 hS1 => ?_)
    subst hw
    obtain ⟨hP1, hD1⟩ := g_join (wc := [(r3, .inr (0, [.ref j3, .int (nI L3.length)])), (j3, .inl (cI, 30, .inl f3))]) (wr := [(sh, .inr (1, [.ref r1, .ref r2, .ref r3, .ref r4, .int (nI rc), .int (nI bo), .int lv])), (r1, .inr (0, [.ref j1, .int (nI L1.length)])), (j1, .inl (cI, 30, .inl f1)), (r2, .inr (0, [.ref j2, .int (nI L2.length)])), (j2, .inl (cI, 30, .inl f2)), (r4, .inr (0, [.ref j4, .int (nI L4.length)])), (j4, .inl (cI, 30, .inl f4))]) (w1 := [(r3, .inr (0, [.ref j3, .int (nI L3.length)])), (j3, .inl (cI, 30, .inl f3))]) hP hD [3, 4] [0, 1, 2, 5, 6, 7, 8] rfl rfl (by decide) (by decide) ht hk1 hFc hB
    clear hB hk1 hz1 hvm ht hPc hDc hKc hFc
    clear hP hD hS
    have hP : va_P G vwCl [(sh, .inr (1, [.ref r1, .ref r2, .ref r3, .ref r4, .int (nI rc), .int (nI bo), .int lv])), (r1, .inr (0, [.ref j1, .int (nI L1.length)])), (j1, .inl (cI, 30, .inl f1)), (r2, .inr (0, [.ref j2, .int (nI L2.length)])), (j2, .inl (cI, 30, .inl f2)), (r4, .inr (0, [.ref j4, .int (nI L4.length)])), (j4, .inl (cI, 30, .inl f4)), (r3, .inr (0, [.ref j3, .int (nI L3.length)])), (j3, .inl (cI, 30, .inl f3))] H_57 := hP1
    have hD : va_D A [(sh, .inr (1, [.ref r1, .ref r2, .ref r3, .ref r4, .int (nI rc), .int (nI bo), .int lv])), (r1, .inr (0, [.ref j1, .int (nI L1.length)])), (j1, .inl (cI, 30, .inl f1)), (r2, .inr (0, [.ref j2, .int (nI L2.length)])), (j2, .inl (cI, 30, .inl f2)), (r4, .inr (0, [.ref j4, .int (nI L4.length)])), (j4, .inl (cI, 30, .inl f4)), (r3, .inr (0, [.ref j3, .int (nI L3.length)])), (j3, .inl (cI, 30, .inl f3))] := hD1
    have hS := hS1
    clear hP1 hD1 hS1
    refine g_if_le (tgt := 68) hx hb dX1_makeWayForNewJar_49 (by decide) (by omega) (fun c_60 => ?_) (fun c_60 => ?_)
    · refine lv_aload_n hx hb dX1_makeWayForNewJar_68 rfl (lv_at hl 2 rfl) ?_
      refine lv_aload_n hx hb dX1_makeWayForNewJar_69 rfl (lv_at hl 2 rfl) ?_
      refine va_get (D := G) (ci := 1) (v := .ref r1) (C := RX1) (T := TX1) (N := 7) hx hb hts iX1_makeWayForNewJar_X1 hown hK hP 0 rfl rfl 0 (by decide) (hts (.fieldLink RX1 14 "GhostPantry$Shelves" "recent" "LGhostPantry$Row;") (by decide +kernel)) (fun _ h9 => h9) rfl dX1_makeWayForNewJar_70 ?_
      have hPc := hP.sub (ws' := [(r1, .inr (0, [.ref j1, .int (nI L1.length)])), (j1, .inl (cI, 30, .inl f1))]) [1, 2] rfl
      have hDc := hD.sub (ws' := [(r1, .inr (0, [.ref j1, .int (nI L1.length)])), (j1, .inl (cI, 30, .inl f1))]) [1, 2] (by decide) rfl
      have hKc := hK.sub (tys' := [(cI, .int)]) [0] rfl
      have hFc := va_free (wc := [(r1, .inr (0, [.ref j1, .int (nI L1.length)])), (j1, .inl (cI, 30, .inl f1))]) hD hS hA [1, 2] rfl
      refine va_calli (va_runV (As := []) (rest := [.ref sh]) ⟨hx, hb, hml, hown, hts⟩ (c_X0_takeLast l G cI r1 j1 f1 L1 hR1 (by omega) (by omega) H_57.size) (cwV 0 hts gX1_makeWayForNewJar_X0_takeLast rfl rfl rfl (by decide +kernel) ⟨Nat.le_of_ble_eq_true rfl, Nat.le_of_ble_eq_true rfl⟩) (g_preV (As := []) hPc hKc hDc 0 rfl rfl) rfl rfl hl.1 rfl (lv_room (Nat.le_of_ble_eq_true rfl)) dX1_makeWayForNewJar_73 ⟨(Nat.le_of_ble_eq_true rfl), (Nat.le_of_ble_eq_true rfl)⟩) hS (fun q _ h => hFc q h) hFc (fun r_64 u_65 t H_63 locs ht hvm hw hB hz1 hk1 hS1 => ?_)
      subst hw
      obtain ⟨f_61, hf_62, hB⟩ := hB
      obtain ⟨hP1, hD1⟩ := g_join (wc := [(r1, .inr (0, [.ref j1, .int (nI L1.length)])), (j1, .inl (cI, 30, .inl f1))]) (wr := [(sh, .inr (1, [.ref r1, .ref r2, .ref r3, .ref r4, .int (nI rc), .int (nI bo), .int lv])), (r2, .inr (0, [.ref j2, .int (nI L2.length)])), (j2, .inl (cI, 30, .inl f2)), (r4, .inr (0, [.ref j4, .int (nI L4.length)])), (j4, .inl (cI, 30, .inl f4)), (r3, .inr (0, [.ref j3, .int (nI L3.length)])), (j3, .inl (cI, 30, .inl f3))]) (w1 := [(r1, .inr (0, [.ref j1, .int (nI L1.dropLast.length)])), (j1, .inl (cI, 30, .inl f_61))]) hP hD [1, 2] [0, 3, 4, 5, 6, 7, 8] rfl rfl (by decide) (by decide) ht hk1 hFc hB
      clear hB hk1 hz1 hvm ht hPc hDc hKc hFc
      clear hP hD hS
      have hP : va_P G vwCl [(sh, .inr (1, [.ref r1, .ref r2, .ref r3, .ref r4, .int (nI rc), .int (nI bo), .int lv])), (r2, .inr (0, [.ref j2, .int (nI L2.length)])), (j2, .inl (cI, 30, .inl f2)), (r4, .inr (0, [.ref j4, .int (nI L4.length)])), (j4, .inl (cI, 30, .inl f4)), (r3, .inr (0, [.ref j3, .int (nI L3.length)])), (j3, .inl (cI, 30, .inl f3)), (r1, .inr (0, [.ref j1, .int (nI L1.dropLast.length)])), (j1, .inl (cI, 30, .inl f_61))] H_63 := hP1
      have hD : va_D A [(sh, .inr (1, [.ref r1, .ref r2, .ref r3, .ref r4, .int (nI rc), .int (nI bo), .int lv])), (r2, .inr (0, [.ref j2, .int (nI L2.length)])), (j2, .inl (cI, 30, .inl f2)), (r4, .inr (0, [.ref j4, .int (nI L4.length)])), (j4, .inl (cI, 30, .inl f4)), (r3, .inr (0, [.ref j3, .int (nI L3.length)])), (j3, .inl (cI, 30, .inl f3)), (r1, .inr (0, [.ref j1, .int (nI L1.dropLast.length)])), (j1, .inl (cI, 30, .inl f_61))] := hD1
      have hS := hS1
      clear hP1 hD1 hS1
      refine va_put (D := G) (ci := 1) (v := .int (lst L1)) (ty := .int) (C := RX1) (T := TX1) (N := 7) hx hb hts iX1_makeWayForNewJar_X1 tyX1 tyX1_ok nmX1 hown hK hP hD hS 0 rfl rfl 6 (by decide) (hts (.fieldLink RX1 36 "GhostPantry$Shelves" "leaver" "I") (by decide +kernel)) (fun _ h9 => h9) rfl (by decide +kernel) rfl rfl (Nat.le_of_ble_eq_true rfl) dX1_makeWayForNewJar_76 (fun H_66 locs hP1 hD1 hS1 => ?_)
      clear hP hD hS
      have hP : va_P G vwCl [(sh, .inr (1, [.ref r1, .ref r2, .ref r3, .ref r4, .int (nI rc), .int (nI bo), .int (lst L1)])), (r2, .inr (0, [.ref j2, .int (nI L2.length)])), (j2, .inl (cI, 30, .inl f2)), (r4, .inr (0, [.ref j4, .int (nI L4.length)])), (j4, .inl (cI, 30, .inl f4)), (r3, .inr (0, [.ref j3, .int (nI L3.length)])), (j3, .inl (cI, 30, .inl f3)), (r1, .inr (0, [.ref j1, .int (nI L1.dropLast.length)])), (j1, .inl (cI, 30, .inl f_61))] H_66 := hP1
      have hD : va_D A [(sh, .inr (1, [.ref r1, .ref r2, .ref r3, .ref r4, .int (nI rc), .int (nI bo), .int (lst L1)])), (r2, .inr (0, [.ref j2, .int (nI L2.length)])), (j2, .inl (cI, 30, .inl f2)), (r4, .inr (0, [.ref j4, .int (nI L4.length)])), (j4, .inl (cI, 30, .inl f4)), (r3, .inr (0, [.ref j3, .int (nI L3.length)])), (j3, .inl (cI, 30, .inl f3)), (r1, .inr (0, [.ref j1, .int (nI L1.dropLast.length)])), (j1, .inl (cI, 30, .inl f_61))] := hD1
      have hS := hS1
      clear hP1 hD1 hS1
      refine lv_goto (tgt := 113) hx hb dX1_makeWayForNewJar_79 (by decide) ?_
      have hP9 := hP.sub (ws' := [(sh, .inr (1, [.ref r1, .ref r2, .ref r3, .ref r4, .int (nI rc), .int (nI bo), .int (lst L1)])), (r1, .inr (0, [.ref j1, .int (nI L1.dropLast.length)])), (j1, .inl (cI, 30, .inl f_61)), (r2, .inr (0, [.ref j2, .int (nI L2.length)])), (j2, .inl (cI, 30, .inl f2)), (r3, .inr (0, [.ref j3, .int (nI L3.length)])), (j3, .inl (cI, 30, .inl f3)), (r4, .inr (0, [.ref j4, .int (nI L4.length)])), (j4, .inl (cI, 30, .inl f4))]) [0, 7, 8, 1, 2, 5, 6, 3, 4] rfl
      have hD9 := hD.sub (ws' := [(sh, .inr (1, [.ref r1, .ref r2, .ref r3, .ref r4, .int (nI rc), .int (nI bo), .int (lst L1)])), (r1, .inr (0, [.ref j1, .int (nI L1.dropLast.length)])), (j1, .inl (cI, 30, .inl f_61)), (r2, .inr (0, [.ref j2, .int (nI L2.length)])), (j2, .inl (cI, 30, .inl f2)), (r3, .inr (0, [.ref j3, .int (nI L3.length)])), (j3, .inl (cI, 30, .inl f3)), (r4, .inr (0, [.ref j4, .int (nI L4.length)])), (j4, .inl (cI, 30, .inl f4))]) [0, 7, 8, 1, 2, 5, 6, 3, 4] (by decide) rfl
      exact W.vret hx hb hr (fun t ht hW => ⟨⟨((L1.dropLast, L2, L3, L4), (lst L1)), rfl, (new_b (by omega) (by omega)), _, _, _, _, hf_62, hR2, hR3, hR4, g_at hP9 hK hD9 ht hW⟩, hS.F ht⟩) hS.2.2 dX1_makeWayForNewJar_113
    · refine lv_aload_n hx hb dX1_makeWayForNewJar_52 rfl (lv_at hl 2 rfl) ?_
      refine va_get (D := G) (ci := 1) (v := .ref r3) (C := RX1) (T := TX1) (N := 7) hx hb hts iX1_makeWayForNewJar_X1 hown hK hP 0 rfl rfl 2 (by decide) (hts (.fieldLink RX1 23 "GhostPantry$Shelves" "recentGhosts" "LGhostPantry$Row;") (by decide +kernel)) (fun _ h9 => h9) rfl dX1_makeWayForNewJar_53 ?_
      have hPc := hP.sub (ws' := [(r3, .inr (0, [.ref j3, .int (nI L3.length)])), (j3, .inl (cI, 30, .inl f3))]) [7, 8] rfl
      have hDc := hD.sub (ws' := [(r3, .inr (0, [.ref j3, .int (nI L3.length)])), (j3, .inl (cI, 30, .inl f3))]) [7, 8] (by decide) rfl
      have hKc := hK.sub (tys' := [(cI, .int)]) [0] rfl
      have hFc := va_free (wc := [(r3, .inr (0, [.ref j3, .int (nI L3.length)])), (j3, .inl (cI, 30, .inl f3))]) hD hS hA [7, 8] rfl
      refine va_calli (va_runV (As := []) (rest := []) ⟨hx, hb, hml, hown, hts⟩ (c_X0_takeLast l G cI r3 j3 f3 L3 hR3 (by omega) (by omega) H_57.size) (cwV 0 hts gX1_makeWayForNewJar_X0_takeLast rfl rfl rfl (by decide +kernel) ⟨Nat.le_of_ble_eq_true rfl, Nat.le_of_ble_eq_true rfl⟩) (g_preV (As := []) hPc hKc hDc 0 rfl rfl) rfl rfl hl.1 rfl (lv_room (Nat.le_of_ble_eq_true rfl)) dX1_makeWayForNewJar_56 ⟨(Nat.le_of_ble_eq_true rfl), (Nat.le_of_ble_eq_true rfl)⟩) hS (fun q _ h => hFc q h) hFc (fun r_70 u_71 t H_69 locs ht hvm hw hB hz1 hk1 hS1 => ?_)
      subst hw
      obtain ⟨f_67, hf_68, hB⟩ := hB
      obtain ⟨hP1, hD1⟩ := g_join (wc := [(r3, .inr (0, [.ref j3, .int (nI L3.length)])), (j3, .inl (cI, 30, .inl f3))]) (wr := [(sh, .inr (1, [.ref r1, .ref r2, .ref r3, .ref r4, .int (nI rc), .int (nI bo), .int lv])), (r1, .inr (0, [.ref j1, .int (nI L1.length)])), (j1, .inl (cI, 30, .inl f1)), (r2, .inr (0, [.ref j2, .int (nI L2.length)])), (j2, .inl (cI, 30, .inl f2)), (r4, .inr (0, [.ref j4, .int (nI L4.length)])), (j4, .inl (cI, 30, .inl f4))]) (w1 := [(r3, .inr (0, [.ref j3, .int (nI L3.dropLast.length)])), (j3, .inl (cI, 30, .inl f_67))]) hP hD [7, 8] [0, 1, 2, 3, 4, 5, 6] rfl rfl (by decide) (by decide) ht hk1 hFc hB
      clear hB hk1 hz1 hvm ht hPc hDc hKc hFc
      clear hP hD hS
      have hP : va_P G vwCl [(sh, .inr (1, [.ref r1, .ref r2, .ref r3, .ref r4, .int (nI rc), .int (nI bo), .int lv])), (r1, .inr (0, [.ref j1, .int (nI L1.length)])), (j1, .inl (cI, 30, .inl f1)), (r2, .inr (0, [.ref j2, .int (nI L2.length)])), (j2, .inl (cI, 30, .inl f2)), (r4, .inr (0, [.ref j4, .int (nI L4.length)])), (j4, .inl (cI, 30, .inl f4)), (r3, .inr (0, [.ref j3, .int (nI L3.dropLast.length)])), (j3, .inl (cI, 30, .inl f_67))] H_69 := hP1
      have hD : va_D A [(sh, .inr (1, [.ref r1, .ref r2, .ref r3, .ref r4, .int (nI rc), .int (nI bo), .int lv])), (r1, .inr (0, [.ref j1, .int (nI L1.length)])), (j1, .inl (cI, 30, .inl f1)), (r2, .inr (0, [.ref j2, .int (nI L2.length)])), (j2, .inl (cI, 30, .inl f2)), (r4, .inr (0, [.ref j4, .int (nI L4.length)])), (j4, .inl (cI, 30, .inl f4)), (r3, .inr (0, [.ref j3, .int (nI L3.dropLast.length)])), (j3, .inl (cI, 30, .inl f_67))] := hD1
      have hS := hS1
      clear hP1 hD1 hS1
      refine lv_pop hx hb dX1_makeWayForNewJar_59 rfl ?_
      have hn_72 : Num rc bo (L1, L2, L3.dropLast, L4) := by simp only [Num, List.length_dropLast]; omega
      refine lv_aload_n hx hb dX1_makeWayForNewJar_60 rfl (lv_at hl 2 rfl) ?_
      refine lv_iconst (v := (nI 0)) hx hb dX1_makeWayForNewJar_61 (by decide +kernel) ?_
      have hPc := hP.sub (ws' := [(sh, .inr (1, [.ref r1, .ref r2, .ref r3, .ref r4, .int (nI rc), .int (nI bo), .int lv])), (r1, .inr (0, [.ref j1, .int (nI L1.length)])), (j1, .inl (cI, 30, .inl f1)), (r2, .inr (0, [.ref j2, .int (nI L2.length)])), (j2, .inl (cI, 30, .inl f2)), (r3, .inr (0, [.ref j3, .int (nI L3.dropLast.length)])), (j3, .inl (cI, 30, .inl f_67)), (r4, .inr (0, [.ref j4, .int (nI L4.length)])), (j4, .inl (cI, 30, .inl f4))]) [0, 1, 2, 3, 4, 7, 8, 5, 6] rfl
      have hDc := hD.sub (ws' := [(sh, .inr (1, [.ref r1, .ref r2, .ref r3, .ref r4, .int (nI rc), .int (nI bo), .int lv])), (r1, .inr (0, [.ref j1, .int (nI L1.length)])), (j1, .inl (cI, 30, .inl f1)), (r2, .inr (0, [.ref j2, .int (nI L2.length)])), (j2, .inl (cI, 30, .inl f2)), (r3, .inr (0, [.ref j3, .int (nI L3.dropLast.length)])), (j3, .inl (cI, 30, .inl f_67)), (r4, .inr (0, [.ref j4, .int (nI L4.length)])), (j4, .inl (cI, 30, .inl f4))]) [0, 1, 2, 3, 4, 7, 8, 5, 6] (by decide) rfl
      have hKc := hK.sub (tys' := [(cI, .int)]) [0] rfl
      have hFc := va_free (wc := [(sh, .inr (1, [.ref r1, .ref r2, .ref r3, .ref r4, .int (nI rc), .int (nI bo), .int lv])), (r1, .inr (0, [.ref j1, .int (nI L1.length)])), (j1, .inl (cI, 30, .inl f1)), (r2, .inr (0, [.ref j2, .int (nI L2.length)])), (j2, .inl (cI, 30, .inl f2)), (r3, .inr (0, [.ref j3, .int (nI L3.dropLast.length)])), (j3, .inl (cI, 30, .inl f_67)), (r4, .inr (0, [.ref j4, .int (nI L4.length)])), (j4, .inl (cI, 30, .inl f4))]) hD hS hA [0, 1, 2, 3, 4, 7, 8, 5, 6] rfl
      refine va_callv (va_runV (As := [.int (nI 0)]) (rest := []) ⟨hx, hb, hml, hown, hts⟩ (c_X1_makeRoom l G cI sh r1 r2 r3 r4 j1 j2 j3 j4 f1 f2 f_67 f4 L1 L2 L3.dropLast L4 rc bo lv hR1 hR2 hf_68 hR4 hn_72 ⟨hj1, hj2, ok_drop hj3, hj4⟩ false H_69.size) (cwV 1 hts gX1_makeWayForNewJar_X1_makeRoom rfl rfl rfl (by decide +kernel) ⟨Nat.le_of_ble_eq_true rfl, Nat.le_of_ble_eq_true rfl⟩) (g_preV (As := [.int (nI 0)]) hPc hKc hDc 0 rfl rfl) rfl rfl hl.1 rfl (lv_room (Nat.le_of_ble_eq_true rfl)) dX1_makeWayForNewJar_62 ⟨(Nat.le_of_ble_eq_true rfl), (Nat.le_of_ble_eq_true rfl)⟩) hS (fun q _ h => hFc q h) hFc (fun u_89 t H_87 locs ht hvm hw hB hz1 hk1 hS1 => ?_)
      obtain ⟨⟨M_73, M_74, M_75, M_76⟩, x_85⟩ := u_89
      obtain ⟨f_77, f_78, f_79, f_80, hf_81, hf_82, hf_83, hf_84, hB⟩ := hB
      have hf_81 : Rw f_77 M_73 := hf_81
      have hf_82 : Rw f_78 M_74 := hf_82
      have hf_83 : Rw f_79 M_75 := hf_83
      have hf_84 : Rw f_80 M_76 := hf_84
      have hqz_86 : (M_73, M_74, M_75, M_76) = sRoom rc bo false (L1, L2, L3.dropLast, L4) := congrArg Prod.fst hw
      have hxz_86 : x_85 = sRoomX rc bo false (L1, L2, L3.dropLast, L4) lv := congrArg Prod.snd hw
      have az_86 := room_lt (ff := false) hn_72
      rw [← hqz_86] at az_86
      have bz_86 := room_sum (ff := false) hn_72
      rw [← hqz_86] at bz_86
      dsimp only at az_86 bz_86
      obtain ⟨bz_861, bz_862, bz_863, bz_864⟩ := bz_86
      obtain ⟨hP1, hD1⟩ := g_join (wc := [(sh, .inr (1, [.ref r1, .ref r2, .ref r3, .ref r4, .int (nI rc), .int (nI bo), .int lv])), (r1, .inr (0, [.ref j1, .int (nI L1.length)])), (j1, .inl (cI, 30, .inl f1)), (r2, .inr (0, [.ref j2, .int (nI L2.length)])), (j2, .inl (cI, 30, .inl f2)), (r3, .inr (0, [.ref j3, .int (nI L3.dropLast.length)])), (j3, .inl (cI, 30, .inl f_67)), (r4, .inr (0, [.ref j4, .int (nI L4.length)])), (j4, .inl (cI, 30, .inl f4))]) (wr := []) (w1 := [(sh, .inr (1, [.ref r1, .ref r2, .ref r3, .ref r4, .int (nI rc), .int (nI bo), .int x_85])), (r1, .inr (0, [.ref j1, .int (nI M_73.length)])), (j1, .inl (cI, 30, .inl f_77)), (r2, .inr (0, [.ref j2, .int (nI M_74.length)])), (j2, .inl (cI, 30, .inl f_78)), (r3, .inr (0, [.ref j3, .int (nI M_75.length)])), (j3, .inl (cI, 30, .inl f_79)), (r4, .inr (0, [.ref j4, .int (nI M_76.length)])), (j4, .inl (cI, 30, .inl f_80))]) hP hD [0, 1, 2, 3, 4, 7, 8, 5, 6] [] rfl rfl (by decide) (by decide) ht hk1 hFc hB
      clear hB hk1 hz1 hvm ht hPc hDc hKc hFc
      clear hP hD hS
      have hP : va_P G vwCl [(sh, .inr (1, [.ref r1, .ref r2, .ref r3, .ref r4, .int (nI rc), .int (nI bo), .int x_85])), (r1, .inr (0, [.ref j1, .int (nI M_73.length)])), (j1, .inl (cI, 30, .inl f_77)), (r2, .inr (0, [.ref j2, .int (nI M_74.length)])), (j2, .inl (cI, 30, .inl f_78)), (r3, .inr (0, [.ref j3, .int (nI M_75.length)])), (j3, .inl (cI, 30, .inl f_79)), (r4, .inr (0, [.ref j4, .int (nI M_76.length)])), (j4, .inl (cI, 30, .inl f_80))] H_87 := hP1
      have hD : va_D A [(sh, .inr (1, [.ref r1, .ref r2, .ref r3, .ref r4, .int (nI rc), .int (nI bo), .int x_85])), (r1, .inr (0, [.ref j1, .int (nI M_73.length)])), (j1, .inl (cI, 30, .inl f_77)), (r2, .inr (0, [.ref j2, .int (nI M_74.length)])), (j2, .inl (cI, 30, .inl f_78)), (r3, .inr (0, [.ref j3, .int (nI M_75.length)])), (j3, .inl (cI, 30, .inl f_79)), (r4, .inr (0, [.ref j4, .int (nI M_76.length)])), (j4, .inl (cI, 30, .inl f_80))] := hD1
      have hS := hS1
      clear hP1 hD1 hS1
      refine lv_goto (tgt := 113) hx hb dX1_makeWayForNewJar_65 (by decide) ?_
      have hP9 := hP.sub (ws' := [(sh, .inr (1, [.ref r1, .ref r2, .ref r3, .ref r4, .int (nI rc), .int (nI bo), .int x_85])), (r1, .inr (0, [.ref j1, .int (nI M_73.length)])), (j1, .inl (cI, 30, .inl f_77)), (r2, .inr (0, [.ref j2, .int (nI M_74.length)])), (j2, .inl (cI, 30, .inl f_78)), (r3, .inr (0, [.ref j3, .int (nI M_75.length)])), (j3, .inl (cI, 30, .inl f_79)), (r4, .inr (0, [.ref j4, .int (nI M_76.length)])), (j4, .inl (cI, 30, .inl f_80))]) [0, 1, 2, 3, 4, 5, 6, 7, 8] rfl
      have hD9 := hD.sub (ws' := [(sh, .inr (1, [.ref r1, .ref r2, .ref r3, .ref r4, .int (nI rc), .int (nI bo), .int x_85])), (r1, .inr (0, [.ref j1, .int (nI M_73.length)])), (j1, .inl (cI, 30, .inl f_77)), (r2, .inr (0, [.ref j2, .int (nI M_74.length)])), (j2, .inl (cI, 30, .inl f_78)), (r3, .inr (0, [.ref j3, .int (nI M_75.length)])), (j3, .inl (cI, 30, .inl f_79)), (r4, .inr (0, [.ref j4, .int (nI M_76.length)])), (j4, .inl (cI, 30, .inl f_80))]) [0, 1, 2, 3, 4, 5, 6, 7, 8] (by decide) rfl
      exact W.vret hx hb hr (fun t ht hW => ⟨⟨((M_73, M_74, M_75, M_76), x_85), rfl, (new_a (by omega) (by omega) (by rw [hqz_86, hxz_86])), _, _, _, _, hf_81, hf_82, hf_83, hf_84, g_at hP9 hK hD9 ht hW⟩, hS.F ht⟩) hS.2.2 dX1_makeWayForNewJar_113

set_option maxRecDepth 20000 in
theorem iX1_serve_X1 : ∀ w ∈ wsX10, w ∈ wsX1_serve := by decide +kernel
set_option maxHeartbeats 4000000 in
set_option maxRecDepth 100000 in
theorem c_X1_serve (l : Launch) (G : va_G) (cI : ClassId) (sh r1 r2 r3 r4 j1 j2 j3 j4 : Nat) (f1 f2 f3 f4 : Nat → Int32) (L1 L2 L3 L4 : List Int32) (rc bo : Nat) (lv : Int32) (hR1 : Rw f1 L1) (hR2 : Rw f2 L2) (hR3 : Rw f3 L3) (hR4 : Rw f4 L4) (hn : Num rc bo (L1, L2, L3, L4)) (hj : Jrs (L1, L2, L3, L4)) (jar : Int32) (hk : jarOk jar) (sz : Nat) : Met l yX1_serve wsX1_serve ({ frames := 4, cells := 0, slots := 0, locals := 87 }) (va_Pc [.ref sh, .int jar] (gpre G [(cI, .int)] [(sh, .inr (1, [.ref r1, .ref r2, .ref r3, .ref r4, .int (nI rc), .int (nI bo), .int lv])), (r1, .inr (0, [.ref j1, .int (nI L1.length)])), (j1, .inl (cI, 30, .inl f1)), (r2, .inr (0, [.ref j2, .int (nI L2.length)])), (j2, .inl (cI, 30, .inl f2)), (r3, .inr (0, [.ref j3, .int (nI L3.length)])), (j3, .inl (cI, 30, .inl f3)), (r4, .inr (0, [.ref j4, .int (nI L4.length)])), (j4, .inl (cI, 30, .inl f4))] sz)) (va_Qi (fun (z : Int32) (u : Q4 × Nat × Int32) => z = nI (whr (L1, L2, L3, L4) jar) ∧ u = (sServe rc bo (L1, L2, L3, L4) jar, sBord rc bo (L1, L2, L3, L4) jar, sServeX rc bo (L1, L2, L3, L4) jar)) (fun (u : Q4 × Nat × Int32) t => ∃ f1' f2' f3' f4' : Nat → Int32, Rw f1' u.1.1 ∧ Rw f2' u.1.2.1 ∧ Rw f3' u.1.2.2.1 ∧ Rw f4' u.1.2.2.2 ∧ gat G [(cI, .int)] (va_A [(sh, .inr (1, [.ref r1, .ref r2, .ref r3, .ref r4, .int (nI rc), .int (nI bo), .int lv])), (r1, .inr (0, [.ref j1, .int (nI L1.length)])), (j1, .inl (cI, 30, .inl f1)), (r2, .inr (0, [.ref j2, .int (nI L2.length)])), (j2, .inl (cI, 30, .inl f2)), (r3, .inr (0, [.ref j3, .int (nI L3.length)])), (j3, .inl (cI, 30, .inl f3)), (r4, .inr (0, [.ref j4, .int (nI L4.length)])), (j4, .inl (cI, 30, .inl f4))] sz) [(sh, .inr (1, [.ref r1, .ref r2, .ref r3, .ref r4, .int (nI rc), .int (nI u.2.1), .int u.2.2])), (r1, .inr (0, [.ref j1, .int (nI u.1.1.length)])), (j1, .inl (cI, 30, .inl f1')), (r2, .inr (0, [.ref j2, .int (nI u.1.2.1.length)])), (j2, .inl (cI, 30, .inl f2')), (r3, .inr (0, [.ref j3, .int (nI u.1.2.2.1.length)])), (j3, .inl (cI, 30, .inl f3')), (r4, .inr (0, [.ref j4, .int (nI u.1.2.2.2.length)])), (j4, .inl (cI, 30, .inl f4'))] t) (va_A [(sh, .inr (1, [.ref r1, .ref r2, .ref r3, .ref r4, .int (nI rc), .int (nI bo), .int lv])), (r1, .inr (0, [.ref j1, .int (nI L1.length)])), (j1, .inl (cI, 30, .inl f1)), (r2, .inr (0, [.ref j2, .int (nI L2.length)])), (j2, .inl (cI, 30, .inl f2)), (r3, .inr (0, [.ref j3, .int (nI L3.length)])), (j3, .inl (cI, 30, .inl f3)), (r4, .inr (0, [.ref j4, .int (nI L4.length)])), (j4, .inl (cI, 30, .inl f4))] sz)) 0 0 (va_A [(sh, .inr (1, [.ref r1, .ref r2, .ref r3, .ref r4, .int (nI rc), .int (nI bo), .int lv])), (r1, .inr (0, [.ref j1, .int (nI L1.length)])), (j1, .inl (cI, 30, .inl f1)), (r2, .inr (0, [.ref j2, .int (nI L2.length)])), (j2, .inl (cI, 30, .inl f2)), (r3, .inr (0, [.ref j3, .int (nI L3.length)])), (j3, .inl (cI, 30, .inl f3)), (r4, .inr (0, [.ref j4, .int (nI L4.length)])), (j4, .inl (cI, 30, .inl f4))] sz) := by
  refine Met.ofW (cc := cX1_serve) (maxL := 4) (ret := (some .int)) (by decide) rfl ?_
  intro p e s m args below meth c s₁ B hml hv
  obtain ⟨rfl, hsz, hP, hK, hD0⟩ := hv
  have hx := B.exec
  have hb := B.bytes
  have hr := B.returns
  have hts := atoms_spec (ws := wsX1_serve) B.pre
  have hown : s.vm.findClass RX1 = some m.cls := findClass_of_methodNamed B.named
  have hlocks := B.notSynchronized
  subst hsz
  have hD := hD0.self (sz := s.heap.size)
  clear hD0
  generalize hAe : va_A [(sh, .inr (1, [.ref r1, .ref r2, .ref r3, .ref r4, .int (nI rc), .int (nI bo), .int lv])), (r1, .inr (0, [.ref j1, .int (nI L1.length)])), (j1, .inl (cI, 30, .inl f1)), (r2, .inr (0, [.ref j2, .int (nI L2.length)])), (j2, .inl (cI, 30, .inl f2)), (r3, .inr (0, [.ref j3, .int (nI L3.length)])), (j3, .inl (cI, 30, .inl f3)), (r4, .inr (0, [.ref j4, .int (nI L4.length)])), (j4, .inl (cI, 30, .inl f4))] s.heap.size = A at hD ⊢
  have hA : ∀ q : Nat, s.heap.size ≤ q → A q := fun q h => by rw [← hAe]; exact Or.inr h
  have hS : va_S A s.heap s.heap [] := va_S.rf
  have hP : va_P G vwCl [(sh, .inr (1, [.ref r1, .ref r2, .ref r3, .ref r4, .int (nI rc), .int (nI bo), .int lv])), (r1, .inr (0, [.ref j1, .int (nI L1.length)])), (j1, .inl (cI, 30, .inl f1)), (r2, .inr (0, [.ref j2, .int (nI L2.length)])), (j2, .inl (cI, 30, .inl f2)), (r3, .inr (0, [.ref j3, .int (nI L3.length)])), (j3, .inl (cI, 30, .inl f3)), (r4, .inr (0, [.ref j4, .int (nI L4.length)])), (j4, .inl (cI, 30, .inl f4))] s.heap := hP
  have hl := lv_entry ([.ref sh, .int jar]) (n := 4) (Nat.le_of_ble_eq_true rfl)
  rw [lg_entry_eq]
  generalize (lg_sl ([.ref sh, .int jar]) ++ List.replicate (4 - (lg_sl ([.ref sh, .int jar])).length) Slot.unset).toArray = ls at hl ⊢
  have hl : lv_has ls 4 [(0, .ref sh), (1, .int jar)] := hl
  obtain ⟨hn1, hn2, hn3, hn4, hn5, hn6⟩ : 1 ≤ rc ∧ rc ≤ 12 ∧ bo ≤ rc ∧ L1.length + L2.length ≤ rc ∧ L1.length + L3.length ≤ rc ∧ L1.length + L2.length + L3.length + L4.length ≤ 2 * rc := hn
  obtain ⟨hj1, hj2, hj3, hj4⟩ : allOk L1 ∧ allOk L2 ∧ allOk L3 ∧ allOk L4 := hj
  have hn : Num rc bo (L1, L2, L3, L4) := ⟨hn1, hn2, hn3, hn4, hn5, hn6⟩
  refine lv_aload_n hx hb dX1_serve_0 rfl (lv_at hl 0 rfl) ?_
  refine lv_iload_n hx hb dX1_serve_1 rfl (lv_at hl 1 rfl) ?_
  have hPc := hP.sub (ws' := [(sh, .inr (1, [.ref r1, .ref r2, .ref r3, .ref r4, .int (nI rc), .int (nI bo), .int lv])), (r1, .inr (0, [.ref j1, .int (nI L1.length)])), (j1, .inl (cI, 30, .inl f1)), (r2, .inr (0, [.ref j2, .int (nI L2.length)])), (j2, .inl (cI, 30, .inl f2)), (r3, .inr (0, [.ref j3, .int (nI L3.length)])), (j3, .inl (cI, 30, .inl f3)), (r4, .inr (0, [.ref j4, .int (nI L4.length)])), (j4, .inl (cI, 30, .inl f4))]) [0, 1, 2, 3, 4, 5, 6, 7, 8] rfl
  have hDc := hD.sub (ws' := [(sh, .inr (1, [.ref r1, .ref r2, .ref r3, .ref r4, .int (nI rc), .int (nI bo), .int lv])), (r1, .inr (0, [.ref j1, .int (nI L1.length)])), (j1, .inl (cI, 30, .inl f1)), (r2, .inr (0, [.ref j2, .int (nI L2.length)])), (j2, .inl (cI, 30, .inl f2)), (r3, .inr (0, [.ref j3, .int (nI L3.length)])), (j3, .inl (cI, 30, .inl f3)), (r4, .inr (0, [.ref j4, .int (nI L4.length)])), (j4, .inl (cI, 30, .inl f4))]) [0, 1, 2, 3, 4, 5, 6, 7, 8] (by decide) rfl
  have hKc := hK.sub (tys' := [(cI, .int)]) [0] rfl
  have hFc := va_free (wc := [(sh, .inr (1, [.ref r1, .ref r2, .ref r3, .ref r4, .int (nI rc), .int (nI bo), .int lv])), (r1, .inr (0, [.ref j1, .int (nI L1.length)])), (j1, .inl (cI, 30, .inl f1)), (r2, .inr (0, [.ref j2, .int (nI L2.length)])), (j2, .inl (cI, 30, .inl f2)), (r3, .inr (0, [.ref j3, .int (nI L3.length)])), (j3, .inl (cI, 30, .inl f3)), (r4, .inr (0, [.ref j4, .int (nI L4.length)])), (j4, .inl (cI, 30, .inl f4))]) hD hS hA [0, 1, 2, 3, 4, 5, 6, 7, 8] rfl
  refine va_calli (va_runV (As := [.int jar]) (rest := []) ⟨hx, hb, hml, hown, hts⟩ (c_X1_whereIs l G cI sh r1 r2 r3 r4 j1 j2 j3 j4 f1 f2 f3 f4 L1 L2 L3 L4 rc bo lv hR1 hR2 hR3 hR4 hn jar s.heap.size) (cwV 1 hts gX1_serve_X1_whereIs rfl rfl rfl (by decide +kernel) ⟨Nat.le_of_ble_eq_true rfl, Nat.le_of_ble_eq_true rfl⟩) (g_preV (As := [.int jar]) hPc hKc hDc 0 rfl rfl) rfl rfl hl.1 rfl (lv_room (Nat.le_of_ble_eq_true rfl)) dX1_serve_2 ⟨(Nat.le_of_ble_eq_true rfl), (Nat.le_of_ble_eq_true rfl)⟩) hS (fun q _ h => hFc q h) hFc (fun r_2 u_3 t H_1 locs ht hvm hw hB hz1 hk1 hS1 => ?_)
  subst hw
  obtain ⟨hP1, hD1⟩ := g_join (wc := [(sh, .inr (1, [.ref r1, .ref r2, .ref r3, .ref r4, .int (nI rc), .int (nI bo), .int lv])), (r1, .inr (0, [.ref j1, .int (nI L1.length)])), (j1, .inl (cI, 30, .inl f1)), (r2, .inr (0, [.ref j2, .int (nI L2.length)])), (j2, .inl (cI, 30, .inl f2)), (r3, .inr (0, [.ref j3, .int (nI L3.length)])), (j3, .inl (cI, 30, .inl f3)), (r4, .inr (0, [.ref j4, .int (nI L4.length)])), (j4, .inl (cI, 30, .inl f4))]) (wr := []) (w1 := [(sh, .inr (1, [.ref r1, .ref r2, .ref r3, .ref r4, .int (nI rc), .int (nI bo), .int lv])), (r1, .inr (0, [.ref j1, .int (nI L1.length)])), (j1, .inl (cI, 30, .inl f1)), (r2, .inr (0, [.ref j2, .int (nI L2.length)])), (j2, .inl (cI, 30, .inl f2)), (r3, .inr (0, [.ref j3, .int (nI L3.length)])), (j3, .inl (cI, 30, .inl f3)), (r4, .inr (0, [.ref j4, .int (nI L4.length)])), (j4, .inl (cI, 30, .inl f4))]) hP hD [0, 1, 2, 3, 4, 5, 6, 7, 8] [] rfl rfl (by decide) (by decide) ht hk1 hFc hB
  clear hB hk1 hz1 hvm ht hPc hDc hKc hFc
  clear hP hD hS
  have hP : va_P G vwCl [(sh, .inr (1, [.ref r1, .ref r2, .ref r3, .ref r4, .int (nI rc), .int (nI bo), .int lv])), (r1, .inr (0, [.ref j1, .int (nI L1.length)])), (j1, .inl (cI, 30, .inl f1)), (r2, .inr (0, [.ref j2, .int (nI L2.length)])), (j2, .inl (cI, 30, .inl f2)), (r3, .inr (0, [.ref j3, .int (nI L3.length)])), (j3, .inl (cI, 30, .inl f3)), (r4, .inr (0, [.ref j4, .int (nI L4.length)])), (j4, .inl (cI, 30, .inl f4))] H_1 := hP1
  have hD : va_D A [(sh, .inr (1, [.ref r1, .ref r2, .ref r3, .ref r4, .int (nI rc), .int (nI bo), .int lv])), (r1, .inr (0, [.ref j1, .int (nI L1.length)])), (j1, .inl (cI, 30, .inl f1)), (r2, .inr (0, [.ref j2, .int (nI L2.length)])), (j2, .inl (cI, 30, .inl f2)), (r3, .inr (0, [.ref j3, .int (nI L3.length)])), (j3, .inl (cI, 30, .inl f3)), (r4, .inr (0, [.ref j4, .int (nI L4.length)])), (j4, .inl (cI, 30, .inl f4))] := hD1
  have hS := hS1
  clear hP1 hD1 hS1
  rcases whr_cases (L1, L2, L3, L4) jar with ⟨hw0, -, -, -, -⟩ | ⟨hw0, mj⟩ | ⟨hw0, -, mj⟩ | ⟨hw0, -, -, mj⟩ | ⟨hw0, -, -, -, mj⟩
  · refine g_top (y := nI 0) (by rw [hw0]) ?_
    refine lv_istore_n (lv' := [(2, .int (nI 0)), (0, .ref sh), (1, .int jar)]) hx hb dX1_serve_5 rfl hl (by decide) rfl (fun ls hl => ?_)
    refine lv_aload_n hx hb dX1_serve_6 rfl (lv_at hl 1 rfl) ?_
    refine lv_iload_n hx hb dX1_serve_7 rfl (lv_at hl 0 rfl) ?_
    have hPc := hP.sub (ws' := [(sh, .inr (1, [.ref r1, .ref r2, .ref r3, .ref r4, .int (nI rc), .int (nI bo), .int lv])), (r1, .inr (0, [.ref j1, .int (nI L1.length)])), (j1, .inl (cI, 30, .inl f1)), (r2, .inr (0, [.ref j2, .int (nI L2.length)])), (j2, .inl (cI, 30, .inl f2)), (r3, .inr (0, [.ref j3, .int (nI L3.length)])), (j3, .inl (cI, 30, .inl f3)), (r4, .inr (0, [.ref j4, .int (nI L4.length)])), (j4, .inl (cI, 30, .inl f4))]) [0, 1, 2, 3, 4, 5, 6, 7, 8] rfl
    have hDc := hD.sub (ws' := [(sh, .inr (1, [.ref r1, .ref r2, .ref r3, .ref r4, .int (nI rc), .int (nI bo), .int lv])), (r1, .inr (0, [.ref j1, .int (nI L1.length)])), (j1, .inl (cI, 30, .inl f1)), (r2, .inr (0, [.ref j2, .int (nI L2.length)])), (j2, .inl (cI, 30, .inl f2)), (r3, .inr (0, [.ref j3, .int (nI L3.length)])), (j3, .inl (cI, 30, .inl f3)), (r4, .inr (0, [.ref j4, .int (nI L4.length)])), (j4, .inl (cI, 30, .inl f4))]) [0, 1, 2, 3, 4, 5, 6, 7, 8] (by decide) rfl
    have hKc := hK.sub (tys' := [(cI, .int)]) [0] rfl
    have hFc := va_free (wc := [(sh, .inr (1, [.ref r1, .ref r2, .ref r3, .ref r4, .int (nI rc), .int (nI bo), .int lv])), (r1, .inr (0, [.ref j1, .int (nI L1.length)])), (j1, .inl (cI, 30, .inl f1)), (r2, .inr (0, [.ref j2, .int (nI L2.length)])), (j2, .inl (cI, 30, .inl f2)), (r3, .inr (0, [.ref j3, .int (nI L3.length)])), (j3, .inl (cI, 30, .inl f3)), (r4, .inr (0, [.ref j4, .int (nI L4.length)])), (j4, .inl (cI, 30, .inl f4))]) hD hS hA [0, 1, 2, 3, 4, 5, 6, 7, 8] rfl
    refine va_callq (va_runV (As := [.int (nI 0)]) (rest := []) ⟨hx, hb, hml, hown, hts⟩ (c_X1_rowAt_0 l G cI sh r1 r2 r3 r4 j1 j2 j3 j4 f1 f2 f3 f4 L1 L2 L3 L4 rc bo lv hR1 hR2 hR3 hR4  H_1.size) (cwV 1 hts gX1_serve_X1_rowAt rfl rfl rfl (by decide +kernel) ⟨Nat.le_of_ble_eq_true rfl, Nat.le_of_ble_eq_true rfl⟩) (g_preV (As := [.int (nI 0)]) hPc hKc hDc 0 rfl rfl) rfl rfl hl.1 rfl (lv_room (Nat.le_of_ble_eq_true rfl)) dX1_serve_8 ⟨(Nat.le_of_ble_eq_true rfl), (Nat.le_of_ble_eq_true rfl)⟩) hS (fun q _ h => hFc q h) hFc (fun r_5 u_6 t H_4 locs ht hvm hw hB hz1 hk1 hS1 => ?_)
    subst hw
    obtain ⟨hP1, hD1⟩ := g_join (wc := [(sh, .inr (1, [.ref r1, .ref r2, .ref r3, .ref r4, .int (nI rc), .int (nI bo), .int lv])), (r1, .inr (0, [.ref j1, .int (nI L1.length)])), (j1, .inl (cI, 30, .inl f1)), (r2, .inr (0, [.ref j2, .int (nI L2.length)])), (j2, .inl (cI, 30, .inl f2)), (r3, .inr (0, [.ref j3, .int (nI L3.length)])), (j3, .inl (cI, 30, .inl f3)), (r4, .inr (0, [.ref j4, .int (nI L4.length)])), (j4, .inl (cI, 30, .inl f4))]) (wr := []) (w1 := [(sh, .inr (1, [.ref r1, .ref r2, .ref r3, .ref r4, .int (nI rc), .int (nI bo), .int lv])), (r1, .inr (0, [.ref j1, .int (nI L1.length)])), (j1, .inl (cI, 30, .inl f1)), (r2, .inr (0, [.ref j2, .int (nI L2.length)])), (j2, .inl (cI, 30, .inl f2)), (r3, .inr (0, [.ref j3, .int (nI L3.length)])), (j3, .inl (cI, 30, .inl f3)), (r4, .inr (0, [.ref j4, .int (nI L4.length)])), (j4, .inl (cI, 30, .inl f4))]) hP hD [0, 1, 2, 3, 4, 5, 6, 7, 8] [] rfl rfl (by decide) (by decide) ht hk1 hFc hB
    clear hB hk1 hz1 hvm ht hPc hDc hKc hFc
    clear hP hD hS
    have hP : va_P G vwCl [(sh, .inr (1, [.ref r1, .ref r2, .ref r3, .ref r4, .int (nI rc), .int (nI bo), .int lv])), (r1, .inr (0, [.ref j1, .int (nI L1.length)])), (j1, .inl (cI, 30, .inl f1)), (r2, .inr (0, [.ref j2, .int (nI L2.length)])), (j2, .inl (cI, 30, .inl f2)), (r3, .inr (0, [.ref j3, .int (nI L3.length)])), (j3, .inl (cI, 30, .inl f3)), (r4, .inr (0, [.ref j4, .int (nI L4.length)])), (j4, .inl (cI, 30, .inl f4))] H_4 := hP1
    have hD : va_D A [(sh, .inr (1, [.ref r1, .ref r2, .ref r3, .ref r4, .int (nI rc), .int (nI bo), .int lv])), (r1, .inr (0, [.ref j1, .int (nI L1.length)])), (j1, .inl (cI, 30, .inl f1)), (r2, .inr (0, [.ref j2, .int (nI L2.length)])), (j2, .inl (cI, 30, .inl f2)), (r3, .inr (0, [.ref j3, .int (nI L3.length)])), (j3, .inl (cI, 30, .inl f3)), (r4, .inr (0, [.ref j4, .int (nI L4.length)])), (j4, .inl (cI, 30, .inl f4))] := hD1
    have hS := hS1
    clear hP1 hD1 hS1
    refine W.eq (g2 := F0 m 11 ls [.null]) rfl ?_
    refine lv_astore_nN (lv' := [(3, .null), (2, .int (nI 0)), (0, .ref sh), (1, .int jar)]) hx hb dX1_serve_11 rfl hl (by decide) rfl (fun ls hl => ?_)
    refine lv_aload_n hx hb dX1_serve_12 rfl (lv_at hl 2 rfl) ?_
    refine lv_iconst (v := (-1)) hx hb dX1_serve_13 (by decide +kernel) ?_
    refine va_put (D := G) (ci := 1) (v := .int (-1)) (ty := .int) (C := RX1) (T := TX1) (N := 7) hx hb hts iX1_serve_X1 tyX1 tyX1_ok nmX1 hown hK hP hD hS 0 rfl rfl 6 (by decide) (hts (.fieldLink RX1 36 "GhostPantry$Shelves" "leaver" "I") (by decide +kernel)) (fun _ h9 => h9) rfl (by decide +kernel) rfl rfl (Nat.le_of_ble_eq_true rfl) dX1_serve_14 (fun H_7 locs hP1 hD1 hS1 => ?_)
    clear hP hD hS
    have hP : va_P G vwCl [(sh, .inr (1, [.ref r1, .ref r2, .ref r3, .ref r4, .int (nI rc), .int (nI bo), .int (-1)])), (r1, .inr (0, [.ref j1, .int (nI L1.length)])), (j1, .inl (cI, 30, .inl f1)), (r2, .inr (0, [.ref j2, .int (nI L2.length)])), (j2, .inl (cI, 30, .inl f2)), (r3, .inr (0, [.ref j3, .int (nI L3.length)])), (j3, .inl (cI, 30, .inl f3)), (r4, .inr (0, [.ref j4, .int (nI L4.length)])), (j4, .inl (cI, 30, .inl f4))] H_7 := hP1
    have hD : va_D A [(sh, .inr (1, [.ref r1, .ref r2, .ref r3, .ref r4, .int (nI rc), .int (nI bo), .int (-1)])), (r1, .inr (0, [.ref j1, .int (nI L1.length)])), (j1, .inl (cI, 30, .inl f1)), (r2, .inr (0, [.ref j2, .int (nI L2.length)])), (j2, .inl (cI, 30, .inl f2)), (r3, .inr (0, [.ref j3, .int (nI L3.length)])), (j3, .inl (cI, 30, .inl f3)), (r4, .inr (0, [.ref j4, .int (nI L4.length)])), (j4, .inl (cI, 30, .inl f4))] := hD1
    have hS := hS1
    clear hP1 hD1 hS1
    refine lv_aload_nN hx hb dX1_serve_17 rfl (lv_at hl 0 rfl) ?_
    refine lv_ifnonnullN hx hb dX1_serve_18 ?_
    refine lv_aload_n hx hb dX1_serve_21 rfl (lv_at hl 2 rfl) ?_
    have hPc := hP.sub (ws' := [(sh, .inr (1, [.ref r1, .ref r2, .ref r3, .ref r4, .int (nI rc), .int (nI bo), .int (-1)])), (r1, .inr (0, [.ref j1, .int (nI L1.length)])), (j1, .inl (cI, 30, .inl f1)), (r2, .inr (0, [.ref j2, .int (nI L2.length)])), (j2, .inl (cI, 30, .inl f2)), (r3, .inr (0, [.ref j3, .int (nI L3.length)])), (j3, .inl (cI, 30, .inl f3)), (r4, .inr (0, [.ref j4, .int (nI L4.length)])), (j4, .inl (cI, 30, .inl f4))]) [0, 1, 2, 3, 4, 5, 6, 7, 8] rfl
    have hDc := hD.sub (ws' := [(sh, .inr (1, [.ref r1, .ref r2, .ref r3, .ref r4, .int (nI rc), .int (nI bo), .int (-1)])), (r1, .inr (0, [.ref j1, .int (nI L1.length)])), (j1, .inl (cI, 30, .inl f1)), (r2, .inr (0, [.ref j2, .int (nI L2.length)])), (j2, .inl (cI, 30, .inl f2)), (r3, .inr (0, [.ref j3, .int (nI L3.length)])), (j3, .inl (cI, 30, .inl f3)), (r4, .inr (0, [.ref j4, .int (nI L4.length)])), (j4, .inl (cI, 30, .inl f4))]) [0, 1, 2, 3, 4, 5, 6, 7, 8] (by decide) rfl
    have hKc := hK.sub (tys' := [(cI, .int)]) [0] rfl
    have hFc := va_free (wc := [(sh, .inr (1, [.ref r1, .ref r2, .ref r3, .ref r4, .int (nI rc), .int (nI bo), .int (-1)])), (r1, .inr (0, [.ref j1, .int (nI L1.length)])), (j1, .inl (cI, 30, .inl f1)), (r2, .inr (0, [.ref j2, .int (nI L2.length)])), (j2, .inl (cI, 30, .inl f2)), (r3, .inr (0, [.ref j3, .int (nI L3.length)])), (j3, .inl (cI, 30, .inl f3)), (r4, .inr (0, [.ref j4, .int (nI L4.length)])), (j4, .inl (cI, 30, .inl f4))]) hD hS hA [0, 1, 2, 3, 4, 5, 6, 7, 8] rfl
    refine va_callv (va_runV (As := []) (rest := []) ⟨hx, hb, hml, hown, hts⟩ (c_X1_makeWayForNewJar l G cI sh r1 r2 r3 r4 j1 j2 j3 j4 f1 f2 f3 f4 L1 L2 L3 L4 rc bo (-1) hR1 hR2 hR3 hR4 hn ⟨hj1, hj2, hj3, hj4⟩ H_7.size) (cwV 0 hts gX1_serve_X1_makeWayForNewJar rfl rfl rfl (by decide +kernel) ⟨Nat.le_of_ble_eq_true rfl, Nat.le_of_ble_eq_true rfl⟩) (g_preV (As := []) hPc hKc hDc 0 rfl rfl) rfl rfl hl.1 rfl (lv_room (Nat.le_of_ble_eq_true rfl)) dX1_serve_22 ⟨(Nat.le_of_ble_eq_true rfl), (Nat.le_of_ble_eq_true rfl)⟩) hS (fun q _ h => hFc q h) hFc (fun u_24 t H_22 locs ht hvm hw hB hz1 hk1 hS1 => ?_)
    obtain ⟨⟨M_8, M_9, M_10, M_11⟩, x_20⟩ := u_24
    obtain ⟨f_12, f_13, f_14, f_15, hf_16, hf_17, hf_18, hf_19, hB⟩ := hB
    have hf_16 : Rw f_12 M_8 := hf_16
    have hf_17 : Rw f_13 M_9 := hf_17
    have hf_18 : Rw f_14 M_10 := hf_18
    have hf_19 : Rw f_15 M_11 := hf_19
    have hqz_21 : (M_8, M_9, M_10, M_11) = sNew rc bo (L1, L2, L3, L4) := congrArg Prod.fst hw
    have hxz_21 : x_20 = sNewX rc bo (L1, L2, L3, L4) (-1) := congrArg Prod.snd hw
    obtain ⟨-, -, az_21, bz_21, dz_21⟩ := new_ok hn ⟨hj1, hj2, hj3, hj4⟩
    rw [← hqz_21] at az_21 bz_21 dz_21
    dsimp only at az_21 bz_21 dz_21
    obtain ⟨hP1, hD1⟩ := g_join (wc := [(sh, .inr (1, [.ref r1, .ref r2, .ref r3, .ref r4, .int (nI rc), .int (nI bo), .int (-1)])), (r1, .inr (0, [.ref j1, .int (nI L1.length)])), (j1, .inl (cI, 30, .inl f1)), (r2, .inr (0, [.ref j2, .int (nI L2.length)])), (j2, .inl (cI, 30, .inl f2)), (r3, .inr (0, [.ref j3, .int (nI L3.length)])), (j3, .inl (cI, 30, .inl f3)), (r4, .inr (0, [.ref j4, .int (nI L4.length)])), (j4, .inl (cI, 30, .inl f4))]) (wr := []) (w1 := [(sh, .inr (1, [.ref r1, .ref r2, .ref r3, .ref r4, .int (nI rc), .int (nI bo), .int x_20])), (r1, .inr (0, [.ref j1, .int (nI M_8.length)])), (j1, .inl (cI, 30, .inl f_12)), (r2, .inr (0, [.ref j2, .int (nI M_9.length)])), (j2, .inl (cI, 30, .inl f_13)), (r3, .inr (0, [.ref j3, .int (nI M_10.length)])), (j3, .inl (cI, 30, .inl f_14)), (r4, .inr (0, [.ref j4, .int (nI M_11.length)])), (j4, .inl (cI, 30, .inl f_15))]) hP hD [0, 1, 2, 3, 4, 5, 6, 7, 8] [] rfl rfl (by decide) (by decide) ht hk1 hFc hB
    clear hB hk1 hz1 hvm ht hPc hDc hKc hFc
    clear hP hD hS
    have hP : va_P G vwCl [(sh, .inr (1, [.ref r1, .ref r2, .ref r3, .ref r4, .int (nI rc), .int (nI bo), .int x_20])), (r1, .inr (0, [.ref j1, .int (nI M_8.length)])), (j1, .inl (cI, 30, .inl f_12)), (r2, .inr (0, [.ref j2, .int (nI M_9.length)])), (j2, .inl (cI, 30, .inl f_13)), (r3, .inr (0, [.ref j3, .int (nI M_10.length)])), (j3, .inl (cI, 30, .inl f_14)), (r4, .inr (0, [.ref j4, .int (nI M_11.length)])), (j4, .inl (cI, 30, .inl f_15))] H_22 := hP1
    have hD : va_D A [(sh, .inr (1, [.ref r1, .ref r2, .ref r3, .ref r4, .int (nI rc), .int (nI bo), .int x_20])), (r1, .inr (0, [.ref j1, .int (nI M_8.length)])), (j1, .inl (cI, 30, .inl f_12)), (r2, .inr (0, [.ref j2, .int (nI M_9.length)])), (j2, .inl (cI, 30, .inl f_13)), (r3, .inr (0, [.ref j3, .int (nI M_10.length)])), (j3, .inl (cI, 30, .inl f_14)), (r4, .inr (0, [.ref j4, .int (nI M_11.length)])), (j4, .inl (cI, 30, .inl f_15))] := hD1
    have hS := hS1
    clear hP1 hD1 hS1
    refine lv_aload_n hx hb dX1_serve_25 rfl (lv_at hl 2 rfl) ?_
    refine va_get (D := G) (ci := 1) (v := .ref r1) (C := RX1) (T := TX1) (N := 7) hx hb hts iX1_serve_X1 hown hK hP 0 rfl rfl 0 (by decide) (hts (.fieldLink RX1 14 "GhostPantry$Shelves" "recent" "LGhostPantry$Row;") (by decide +kernel)) (fun _ h9 => h9) rfl dX1_serve_26 ?_
    refine lv_iload_n hx hb dX1_serve_29 rfl (lv_at hl 3 rfl) ?_
    have hPc := hP.sub (ws' := [(r1, .inr (0, [.ref j1, .int (nI M_8.length)])), (j1, .inl (cI, 30, .inl f_12))]) [1, 2] rfl
    have hDc := hD.sub (ws' := [(r1, .inr (0, [.ref j1, .int (nI M_8.length)])), (j1, .inl (cI, 30, .inl f_12))]) [1, 2] (by decide) rfl
    have hKc := hK.sub (tys' := [(cI, .int)]) [0] rfl
    have hFc := va_free (wc := [(r1, .inr (0, [.ref j1, .int (nI M_8.length)])), (j1, .inl (cI, 30, .inl f_12))]) hD hS hA [1, 2] rfl
    refine va_callv (va_runV (As := [.int jar]) (rest := []) ⟨hx, hb, hml, hown, hts⟩ (c_X0_putFirst l G cI r1 j1 f_12 M_8 hf_16 (by omega) jar (by first | omega | (simp only [List.length_cons, List.length_dropLast] at *; omega)) H_22.size) (cwV 1 hts gX1_serve_X0_putFirst rfl rfl rfl (by decide +kernel) ⟨Nat.le_of_ble_eq_true rfl, Nat.le_of_ble_eq_true rfl⟩) (g_preV (As := [.int jar]) hPc hKc hDc 0 rfl rfl) rfl rfl hl.1 rfl (lv_room (Nat.le_of_ble_eq_true rfl)) dX1_serve_30 ⟨(Nat.le_of_ble_eq_true rfl), (Nat.le_of_ble_eq_true rfl)⟩) hS (fun q _ h => hFc q h) hFc (fun u_29 t H_27 locs ht hvm hw hB hz1 hk1 hS1 => ?_)
    obtain ⟨f_25, hf_26, hB⟩ := hB
    obtain ⟨hP1, hD1⟩ := g_join (wc := [(r1, .inr (0, [.ref j1, .int (nI M_8.length)])), (j1, .inl (cI, 30, .inl f_12))]) (wr := [(sh, .inr (1, [.ref r1, .ref r2, .ref r3, .ref r4, .int (nI rc), .int (nI bo), .int x_20])), (r2, .inr (0, [.ref j2, .int (nI M_9.length)])), (j2, .inl (cI, 30, .inl f_13)), (r3, .inr (0, [.ref j3, .int (nI M_10.length)])), (j3, .inl (cI, 30, .inl f_14)), (r4, .inr (0, [.ref j4, .int (nI M_11.length)])), (j4, .inl (cI, 30, .inl f_15))]) (w1 := [(r1, .inr (0, [.ref j1, .int (nI ((jar :: M_8).length))])), (j1, .inl (cI, 30, .inl f_25))]) hP hD [1, 2] [0, 3, 4, 5, 6, 7, 8] rfl rfl (by decide) (by decide) ht hk1 hFc hB
    clear hB hk1 hz1 hvm ht hPc hDc hKc hFc
    clear hP hD hS
    have hP : va_P G vwCl [(sh, .inr (1, [.ref r1, .ref r2, .ref r3, .ref r4, .int (nI rc), .int (nI bo), .int x_20])), (r2, .inr (0, [.ref j2, .int (nI M_9.length)])), (j2, .inl (cI, 30, .inl f_13)), (r3, .inr (0, [.ref j3, .int (nI M_10.length)])), (j3, .inl (cI, 30, .inl f_14)), (r4, .inr (0, [.ref j4, .int (nI M_11.length)])), (j4, .inl (cI, 30, .inl f_15)), (r1, .inr (0, [.ref j1, .int (nI ((jar :: M_8).length))])), (j1, .inl (cI, 30, .inl f_25))] H_27 := hP1
    have hD : va_D A [(sh, .inr (1, [.ref r1, .ref r2, .ref r3, .ref r4, .int (nI rc), .int (nI bo), .int x_20])), (r2, .inr (0, [.ref j2, .int (nI M_9.length)])), (j2, .inl (cI, 30, .inl f_13)), (r3, .inr (0, [.ref j3, .int (nI M_10.length)])), (j3, .inl (cI, 30, .inl f_14)), (r4, .inr (0, [.ref j4, .int (nI M_11.length)])), (j4, .inl (cI, 30, .inl f_15)), (r1, .inr (0, [.ref j1, .int (nI ((jar :: M_8).length))])), (j1, .inl (cI, 30, .inl f_25))] := hD1
    have hS := hS1
    clear hP1 hD1 hS1
    refine lv_iload_n hx hb dX1_serve_33 rfl (lv_at hl 1 rfl) ?_
    have hP9 := hP.sub (ws' := [(sh, .inr (1, [.ref r1, .ref r2, .ref r3, .ref r4, .int (nI rc), .int (nI bo), .int x_20])), (r1, .inr (0, [.ref j1, .int (nI ((jar :: M_8).length))])), (j1, .inl (cI, 30, .inl f_25)), (r2, .inr (0, [.ref j2, .int (nI M_9.length)])), (j2, .inl (cI, 30, .inl f_13)), (r3, .inr (0, [.ref j3, .int (nI M_10.length)])), (j3, .inl (cI, 30, .inl f_14)), (r4, .inr (0, [.ref j4, .int (nI M_11.length)])), (j4, .inl (cI, 30, .inl f_15))]) [0, 7, 8, 1, 2, 3, 4, 5, 6] rfl
    have hD9 := hD.sub (ws' := [(sh, .inr (1, [.ref r1, .ref r2, .ref r3, .ref r4, .int (nI rc), .int (nI bo), .int x_20])), (r1, .inr (0, [.ref j1, .int (nI ((jar :: M_8).length))])), (j1, .inl (cI, 30, .inl f_25)), (r2, .inr (0, [.ref j2, .int (nI M_9.length)])), (j2, .inl (cI, 30, .inl f_13)), (r3, .inr (0, [.ref j3, .int (nI M_10.length)])), (j3, .inl (cI, 30, .inl f_14)), (r4, .inr (0, [.ref j4, .int (nI M_11.length)])), (j4, .inl (cI, 30, .inl f_15))]) [0, 7, 8, 1, 2, 3, 4, 5, 6] (by decide) rfl
    exact W.iret (v := (nI 0)) hx hb hr (fun t ht hW => ⟨⟨(nI 0), (((jar :: M_8), M_9, M_10, M_11), bo, x_20), rfl, ⟨(by rw [hw0]), (by rw [(serve0 hw0).1, (serve0 hw0).2.1, (serve0 hw0).2.2, ← hqz_21, ← hxz_21])⟩, _, _, _, _, hf_26, hf_17, hf_18, hf_19, g_at hP9 hK hD9 ht hW⟩, hS.F ht⟩) hS.2.2 dX1_serve_34
  · refine g_top (y := nI 1) (by rw [hw0]) ?_
    have mj : jar ∈ L1 := mj
    have mp := List.length_pos_of_mem mj
    refine lv_istore_n (lv' := [(2, .int (nI 1)), (0, .ref sh), (1, .int jar)]) hx hb dX1_serve_5 rfl hl (by decide) rfl (fun ls hl => ?_)
    refine lv_aload_n hx hb dX1_serve_6 rfl (lv_at hl 1 rfl) ?_
    refine lv_iload_n hx hb dX1_serve_7 rfl (lv_at hl 0 rfl) ?_
    have hPc := hP.sub (ws' := [(sh, .inr (1, [.ref r1, .ref r2, .ref r3, .ref r4, .int (nI rc), .int (nI bo), .int lv])), (r1, .inr (0, [.ref j1, .int (nI L1.length)])), (j1, .inl (cI, 30, .inl f1)), (r2, .inr (0, [.ref j2, .int (nI L2.length)])), (j2, .inl (cI, 30, .inl f2)), (r3, .inr (0, [.ref j3, .int (nI L3.length)])), (j3, .inl (cI, 30, .inl f3)), (r4, .inr (0, [.ref j4, .int (nI L4.length)])), (j4, .inl (cI, 30, .inl f4))]) [0, 1, 2, 3, 4, 5, 6, 7, 8] rfl
    have hDc := hD.sub (ws' := [(sh, .inr (1, [.ref r1, .ref r2, .ref r3, .ref r4, .int (nI rc), .int (nI bo), .int lv])), (r1, .inr (0, [.ref j1, .int (nI L1.length)])), (j1, .inl (cI, 30, .inl f1)), (r2, .inr (0, [.ref j2, .int (nI L2.length)])), (j2, .inl (cI, 30, .inl f2)), (r3, .inr (0, [.ref j3, .int (nI L3.length)])), (j3, .inl (cI, 30, .inl f3)), (r4, .inr (0, [.ref j4, .int (nI L4.length)])), (j4, .inl (cI, 30, .inl f4))]) [0, 1, 2, 3, 4, 5, 6, 7, 8] (by decide) rfl
    have hKc := hK.sub (tys' := [(cI, .int)]) [0] rfl
    have hFc := va_free (wc := [(sh, .inr (1, [.ref r1, .ref r2, .ref r3, .ref r4, .int (nI rc), .int (nI bo), .int lv])), (r1, .inr (0, [.ref j1, .int (nI L1.length)])), (j1, .inl (cI, 30, .inl f1)), (r2, .inr (0, [.ref j2, .int (nI L2.length)])), (j2, .inl (cI, 30, .inl f2)), (r3, .inr (0, [.ref j3, .int (nI L3.length)])), (j3, .inl (cI, 30, .inl f3)), (r4, .inr (0, [.ref j4, .int (nI L4.length)])), (j4, .inl (cI, 30, .inl f4))]) hD hS hA [0, 1, 2, 3, 4, 5, 6, 7, 8] rfl
    refine va_callq (va_runV (As := [.int (nI 1)]) (rest := []) ⟨hx, hb, hml, hown, hts⟩ (c_X1_rowAt_1 l G cI sh r1 r2 r3 r4 j1 j2 j3 j4 f1 f2 f3 f4 L1 L2 L3 L4 rc bo lv hR1 hR2 hR3 hR4  H_1.size) (cwV 1 hts gX1_serve_X1_rowAt rfl rfl rfl (by decide +kernel) ⟨Nat.le_of_ble_eq_true rfl, Nat.le_of_ble_eq_true rfl⟩) (g_preV (As := [.int (nI 1)]) hPc hKc hDc 0 rfl rfl) rfl rfl hl.1 rfl (lv_room (Nat.le_of_ble_eq_true rfl)) dX1_serve_8 ⟨(Nat.le_of_ble_eq_true rfl), (Nat.le_of_ble_eq_true rfl)⟩) hS (fun q _ h => hFc q h) hFc (fun r_31 u_32 t H_30 locs ht hvm hw hB hz1 hk1 hS1 => ?_)
    subst hw
    obtain ⟨hP1, hD1⟩ := g_join (wc := [(sh, .inr (1, [.ref r1, .ref r2, .ref r3, .ref r4, .int (nI rc), .int (nI bo), .int lv])), (r1, .inr (0, [.ref j1, .int (nI L1.length)])), (j1, .inl (cI, 30, .inl f1)), (r2, .inr (0, [.ref j2, .int (nI L2.length)])), (j2, .inl (cI, 30, .inl f2)), (r3, .inr (0, [.ref j3, .int (nI L3.length)])), (j3, .inl (cI, 30, .inl f3)), (r4, .inr (0, [.ref j4, .int (nI L4.length)])), (j4, .inl (cI, 30, .inl f4))]) (wr := []) (w1 := [(sh, .inr (1, [.ref r1, .ref r2, .ref r3, .ref r4, .int (nI rc), .int (nI bo), .int lv])), (r1, .inr (0, [.ref j1, .int (nI L1.length)])), (j1, .inl (cI, 30, .inl f1)), (r2, .inr (0, [.ref j2, .int (nI L2.length)])), (j2, .inl (cI, 30, .inl f2)), (r3, .inr (0, [.ref j3, .int (nI L3.length)])), (j3, .inl (cI, 30, .inl f3)), (r4, .inr (0, [.ref j4, .int (nI L4.length)])), (j4, .inl (cI, 30, .inl f4))]) hP hD [0, 1, 2, 3, 4, 5, 6, 7, 8] [] rfl rfl (by decide) (by decide) ht hk1 hFc hB
    clear hB hk1 hz1 hvm ht hPc hDc hKc hFc
    clear hP hD hS
    have hP : va_P G vwCl [(sh, .inr (1, [.ref r1, .ref r2, .ref r3, .ref r4, .int (nI rc), .int (nI bo), .int lv])), (r1, .inr (0, [.ref j1, .int (nI L1.length)])), (j1, .inl (cI, 30, .inl f1)), (r2, .inr (0, [.ref j2, .int (nI L2.length)])), (j2, .inl (cI, 30, .inl f2)), (r3, .inr (0, [.ref j3, .int (nI L3.length)])), (j3, .inl (cI, 30, .inl f3)), (r4, .inr (0, [.ref j4, .int (nI L4.length)])), (j4, .inl (cI, 30, .inl f4))] H_30 := hP1
    have hD : va_D A [(sh, .inr (1, [.ref r1, .ref r2, .ref r3, .ref r4, .int (nI rc), .int (nI bo), .int lv])), (r1, .inr (0, [.ref j1, .int (nI L1.length)])), (j1, .inl (cI, 30, .inl f1)), (r2, .inr (0, [.ref j2, .int (nI L2.length)])), (j2, .inl (cI, 30, .inl f2)), (r3, .inr (0, [.ref j3, .int (nI L3.length)])), (j3, .inl (cI, 30, .inl f3)), (r4, .inr (0, [.ref j4, .int (nI L4.length)])), (j4, .inl (cI, 30, .inl f4))] := hD1
    have hS := hS1
    clear hP1 hD1 hS1
    refine W.eq (g2 := F0 m 11 ls [.ref r1]) rfl ?_
    refine lv_astore_n (lv' := [(3, .ref r1), (2, .int (nI 1)), (0, .ref sh), (1, .int jar)]) hx hb dX1_serve_11 rfl hl (by decide) rfl (fun ls hl => ?_)
    refine lv_aload_n hx hb dX1_serve_12 rfl (lv_at hl 2 rfl) ?_
    refine lv_iconst (v := (-1)) hx hb dX1_serve_13 (by decide +kernel) ?_
    refine va_put (D := G) (ci := 1) (v := .int (-1)) (ty := .int) (C := RX1) (T := TX1) (N := 7) hx hb hts iX1_serve_X1 tyX1 tyX1_ok nmX1 hown hK hP hD hS 0 rfl rfl 6 (by decide) (hts (.fieldLink RX1 36 "GhostPantry$Shelves" "leaver" "I") (by decide +kernel)) (fun _ h9 => h9) rfl (by decide +kernel) rfl rfl (Nat.le_of_ble_eq_true rfl) dX1_serve_14 (fun H_33 locs hP1 hD1 hS1 => ?_)
    clear hP hD hS
    have hP : va_P G vwCl [(sh, .inr (1, [.ref r1, .ref r2, .ref r3, .ref r4, .int (nI rc), .int (nI bo), .int (-1)])), (r1, .inr (0, [.ref j1, .int (nI L1.length)])), (j1, .inl (cI, 30, .inl f1)), (r2, .inr (0, [.ref j2, .int (nI L2.length)])), (j2, .inl (cI, 30, .inl f2)), (r3, .inr (0, [.ref j3, .int (nI L3.length)])), (j3, .inl (cI, 30, .inl f3)), (r4, .inr (0, [.ref j4, .int (nI L4.length)])), (j4, .inl (cI, 30, .inl f4))] H_33 := hP1
    have hD : va_D A [(sh, .inr (1, [.ref r1, .ref r2, .ref r3, .ref r4, .int (nI rc), .int (nI bo), .int (-1)])), (r1, .inr (0, [.ref j1, .int (nI L1.length)])), (j1, .inl (cI, 30, .inl f1)), (r2, .inr (0, [.ref j2, .int (nI L2.length)])), (j2, .inl (cI, 30, .inl f2)), (r3, .inr (0, [.ref j3, .int (nI L3.length)])), (j3, .inl (cI, 30, .inl f3)), (r4, .inr (0, [.ref j4, .int (nI L4.length)])), (j4, .inl (cI, 30, .inl f4))] := hD1
    have hS := hS1
    clear hP1 hD1 hS1
    refine lv_aload_n hx hb dX1_serve_17 rfl (lv_at hl 0 rfl) ?_
    refine lv_ifnonnull (tgt := 35) hx hb dX1_serve_18 (by decide) ?_
    refine lv_iload_n hx hb dX1_serve_35 rfl (lv_at hl 1 rfl) ?_
    refine lv_iconst (v := (nI 3)) hx hb dX1_serve_36 (by decide +kernel) ?_
    refine g_icmp_ne (tgt := 76) hx hb dX1_serve_37 (by decide) (by decide) (by decide) (fun c_34 => ?_) (fun c_34 => False.elim (by omega))
    refine lv_iload_n hx hb dX1_serve_76 rfl (lv_at hl 1 rfl) ?_
    refine lv_iconst (v := (nI 4)) hx hb dX1_serve_77 (by decide +kernel) ?_
    refine g_icmp_ne (tgt := 111) hx hb dX1_serve_78 (by decide) (by decide) (by decide) (fun c_35 => ?_) (fun c_35 => False.elim (by omega))
    refine lv_aload_n hx hb dX1_serve_111 rfl (lv_at hl 0 rfl) ?_
    refine lv_aload_n hx hb dX1_serve_112 rfl (lv_at hl 0 rfl) ?_
    refine lv_iload_n hx hb dX1_serve_113 rfl (lv_at hl 3 rfl) ?_
    have hPc := hP.sub (ws' := [(r1, .inr (0, [.ref j1, .int (nI L1.length)])), (j1, .inl (cI, 30, .inl f1))]) [1, 2] rfl
    have hDc := hD.sub (ws' := [(r1, .inr (0, [.ref j1, .int (nI L1.length)])), (j1, .inl (cI, 30, .inl f1))]) [1, 2] (by decide) rfl
    have hKc := hK.sub (tys' := [(cI, .int)]) [0] rfl
    have hFc := va_free (wc := [(r1, .inr (0, [.ref j1, .int (nI L1.length)])), (j1, .inl (cI, 30, .inl f1))]) hD hS hA [1, 2] rfl
    refine va_calli (va_runV (As := [.int jar]) (rest := [.ref r1]) ⟨hx, hb, hml, hown, hts⟩ (c_X0_placeOf l G cI r1 j1 f1 L1 hR1 (by omega) jar H_33.size) (cwV 1 hts gX1_serve_X0_placeOf rfl rfl rfl (by decide +kernel) ⟨Nat.le_of_ble_eq_true rfl, Nat.le_of_ble_eq_true rfl⟩) (g_preV (As := [.int jar]) hPc hKc hDc 0 rfl rfl) rfl rfl hl.1 rfl (lv_room (Nat.le_of_ble_eq_true rfl)) dX1_serve_114 ⟨(Nat.le_of_ble_eq_true rfl), (Nat.le_of_ble_eq_true rfl)⟩) hS (fun q _ h => hFc q h) hFc (fun r_37 u_38 t H_36 locs ht hvm hw hB hz1 hk1 hS1 => ?_)
    subst hw
    obtain ⟨hP1, hD1⟩ := g_join (wc := [(r1, .inr (0, [.ref j1, .int (nI L1.length)])), (j1, .inl (cI, 30, .inl f1))]) (wr := [(sh, .inr (1, [.ref r1, .ref r2, .ref r3, .ref r4, .int (nI rc), .int (nI bo), .int (-1)])), (r2, .inr (0, [.ref j2, .int (nI L2.length)])), (j2, .inl (cI, 30, .inl f2)), (r3, .inr (0, [.ref j3, .int (nI L3.length)])), (j3, .inl (cI, 30, .inl f3)), (r4, .inr (0, [.ref j4, .int (nI L4.length)])), (j4, .inl (cI, 30, .inl f4))]) (w1 := [(r1, .inr (0, [.ref j1, .int (nI L1.length)])), (j1, .inl (cI, 30, .inl f1))]) hP hD [1, 2] [0, 3, 4, 5, 6, 7, 8] rfl rfl (by decide) (by decide) ht hk1 hFc hB
    clear hB hk1 hz1 hvm ht hPc hDc hKc hFc
    clear hP hD hS
    have hP : va_P G vwCl [(sh, .inr (1, [.ref r1, .ref r2, .ref r3, .ref r4, .int (nI rc), .int (nI bo), .int (-1)])), (r2, .inr (0, [.ref j2, .int (nI L2.length)])), (j2, .inl (cI, 30, .inl f2)), (r3, .inr (0, [.ref j3, .int (nI L3.length)])), (j3, .inl (cI, 30, .inl f3)), (r4, .inr (0, [.ref j4, .int (nI L4.length)])), (j4, .inl (cI, 30, .inl f4)), (r1, .inr (0, [.ref j1, .int (nI L1.length)])), (j1, .inl (cI, 30, .inl f1))] H_36 := hP1
    have hD : va_D A [(sh, .inr (1, [.ref r1, .ref r2, .ref r3, .ref r4, .int (nI rc), .int (nI bo), .int (-1)])), (r2, .inr (0, [.ref j2, .int (nI L2.length)])), (j2, .inl (cI, 30, .inl f2)), (r3, .inr (0, [.ref j3, .int (nI L3.length)])), (j3, .inl (cI, 30, .inl f3)), (r4, .inr (0, [.ref j4, .int (nI L4.length)])), (j4, .inl (cI, 30, .inl f4)), (r1, .inr (0, [.ref j1, .int (nI L1.length)])), (j1, .inl (cI, 30, .inl f1))] := hD1
    have hS := hS1
    clear hP1 hD1 hS1
    have mi := idx_lt mj
    have ml : (L1.eraseIdx (L1.idxOf jar)).length = L1.length - 1 := List.length_eraseIdx_of_lt mi
    refine g_top (y := nI (L1.idxOf jar)) (pos_idx mj) ?_
    have hPc := hP.sub (ws' := [(r1, .inr (0, [.ref j1, .int (nI L1.length)])), (j1, .inl (cI, 30, .inl f1))]) [7, 8] rfl
    have hDc := hD.sub (ws' := [(r1, .inr (0, [.ref j1, .int (nI L1.length)])), (j1, .inl (cI, 30, .inl f1))]) [7, 8] (by decide) rfl
    have hKc := hK.sub (tys' := [(cI, .int)]) [0] rfl
    have hFc := va_free (wc := [(r1, .inr (0, [.ref j1, .int (nI L1.length)])), (j1, .inl (cI, 30, .inl f1))]) hD hS hA [7, 8] rfl
    refine va_calli (va_runV (As := [.int (nI (L1.idxOf jar))]) (rest := []) ⟨hx, hb, hml, hown, hts⟩ (c_X0_takeAt l G cI r1 j1 f1 L1 hR1 (by omega) (L1.idxOf jar) (by first | omega | (simp only [List.length_cons, List.length_dropLast] at *; omega)) H_36.size) (cwV 1 hts gX1_serve_X0_takeAt rfl rfl rfl (by decide +kernel) ⟨Nat.le_of_ble_eq_true rfl, Nat.le_of_ble_eq_true rfl⟩) (g_preV (As := [.int (nI (L1.idxOf jar))]) hPc hKc hDc 0 rfl rfl) rfl rfl hl.1 rfl (lv_room (Nat.le_of_ble_eq_true rfl)) dX1_serve_117 ⟨(Nat.le_of_ble_eq_true rfl), (Nat.le_of_ble_eq_true rfl)⟩) hS (fun q _ h => hFc q h) hFc (fun r_42 u_43 t H_41 locs ht hvm hw hB hz1 hk1 hS1 => ?_)
    subst hw
    obtain ⟨f_39, hf_40, hB⟩ := hB
    obtain ⟨hP1, hD1⟩ := g_join (wc := [(r1, .inr (0, [.ref j1, .int (nI L1.length)])), (j1, .inl (cI, 30, .inl f1))]) (wr := [(sh, .inr (1, [.ref r1, .ref r2, .ref r3, .ref r4, .int (nI rc), .int (nI bo), .int (-1)])), (r2, .inr (0, [.ref j2, .int (nI L2.length)])), (j2, .inl (cI, 30, .inl f2)), (r3, .inr (0, [.ref j3, .int (nI L3.length)])), (j3, .inl (cI, 30, .inl f3)), (r4, .inr (0, [.ref j4, .int (nI L4.length)])), (j4, .inl (cI, 30, .inl f4))]) (w1 := [(r1, .inr (0, [.ref j1, .int (nI ((L1.eraseIdx (L1.idxOf jar)).length))])), (j1, .inl (cI, 30, .inl f_39))]) hP hD [7, 8] [0, 1, 2, 3, 4, 5, 6] rfl rfl (by decide) (by decide) ht hk1 hFc hB
    clear hB hk1 hz1 hvm ht hPc hDc hKc hFc
    clear hP hD hS
    have hP : va_P G vwCl [(sh, .inr (1, [.ref r1, .ref r2, .ref r3, .ref r4, .int (nI rc), .int (nI bo), .int (-1)])), (r2, .inr (0, [.ref j2, .int (nI L2.length)])), (j2, .inl (cI, 30, .inl f2)), (r3, .inr (0, [.ref j3, .int (nI L3.length)])), (j3, .inl (cI, 30, .inl f3)), (r4, .inr (0, [.ref j4, .int (nI L4.length)])), (j4, .inl (cI, 30, .inl f4)), (r1, .inr (0, [.ref j1, .int (nI ((L1.eraseIdx (L1.idxOf jar)).length))])), (j1, .inl (cI, 30, .inl f_39))] H_41 := hP1
    have hD : va_D A [(sh, .inr (1, [.ref r1, .ref r2, .ref r3, .ref r4, .int (nI rc), .int (nI bo), .int (-1)])), (r2, .inr (0, [.ref j2, .int (nI L2.length)])), (j2, .inl (cI, 30, .inl f2)), (r3, .inr (0, [.ref j3, .int (nI L3.length)])), (j3, .inl (cI, 30, .inl f3)), (r4, .inr (0, [.ref j4, .int (nI L4.length)])), (j4, .inl (cI, 30, .inl f4)), (r1, .inr (0, [.ref j1, .int (nI ((L1.eraseIdx (L1.idxOf jar)).length))])), (j1, .inl (cI, 30, .inl f_39))] := hD1
    have hS := hS1
    clear hP1 hD1 hS1
    refine lv_pop hx hb dX1_serve_120 rfl ?_
    refine lv_aload_n hx hb dX1_serve_121 rfl (lv_at hl 2 rfl) ?_
    refine va_get (D := G) (ci := 1) (v := .ref r2) (C := RX1) (T := TX1) (N := 7) hx hb hts iX1_serve_X1 hown hK hP 0 rfl rfl 1 (by decide) (hts (.fieldLink RX1 20 "GhostPantry$Shelves" "frequent" "LGhostPantry$Row;") (by decide +kernel)) (fun _ h9 => h9) rfl dX1_serve_122 ?_
    refine lv_iload_n hx hb dX1_serve_125 rfl (lv_at hl 3 rfl) ?_
    have hPc := hP.sub (ws' := [(r2, .inr (0, [.ref j2, .int (nI L2.length)])), (j2, .inl (cI, 30, .inl f2))]) [1, 2] rfl
    have hDc := hD.sub (ws' := [(r2, .inr (0, [.ref j2, .int (nI L2.length)])), (j2, .inl (cI, 30, .inl f2))]) [1, 2] (by decide) rfl
    have hKc := hK.sub (tys' := [(cI, .int)]) [0] rfl
    have hFc := va_free (wc := [(r2, .inr (0, [.ref j2, .int (nI L2.length)])), (j2, .inl (cI, 30, .inl f2))]) hD hS hA [1, 2] rfl
    refine va_callv (va_runV (As := [.int jar]) (rest := []) ⟨hx, hb, hml, hown, hts⟩ (c_X0_putFirst l G cI r2 j2 f2 L2 hR2 (by omega) jar (by first | omega | (simp only [List.length_cons, List.length_dropLast] at *; omega)) H_41.size) (cwV 1 hts gX1_serve_X0_putFirst rfl rfl rfl (by decide +kernel) ⟨Nat.le_of_ble_eq_true rfl, Nat.le_of_ble_eq_true rfl⟩) (g_preV (As := [.int jar]) hPc hKc hDc 0 rfl rfl) rfl rfl hl.1 rfl (lv_room (Nat.le_of_ble_eq_true rfl)) dX1_serve_126 ⟨(Nat.le_of_ble_eq_true rfl), (Nat.le_of_ble_eq_true rfl)⟩) hS (fun q _ h => hFc q h) hFc (fun u_48 t H_46 locs ht hvm hw hB hz1 hk1 hS1 => ?_)
    obtain ⟨f_44, hf_45, hB⟩ := hB
    obtain ⟨hP1, hD1⟩ := g_join (wc := [(r2, .inr (0, [.ref j2, .int (nI L2.length)])), (j2, .inl (cI, 30, .inl f2))]) (wr := [(sh, .inr (1, [.ref r1, .ref r2, .ref r3, .ref r4, .int (nI rc), .int (nI bo), .int (-1)])), (r3, .inr (0, [.ref j3, .int (nI L3.length)])), (j3, .inl (cI, 30, .inl f3)), (r4, .inr (0, [.ref j4, .int (nI L4.length)])), (j4, .inl (cI, 30, .inl f4)), (r1, .inr (0, [.ref j1, .int (nI ((L1.eraseIdx (L1.idxOf jar)).length))])), (j1, .inl (cI, 30, .inl f_39))]) (w1 := [(r2, .inr (0, [.ref j2, .int (nI ((jar :: L2).length))])), (j2, .inl (cI, 30, .inl f_44))]) hP hD [1, 2] [0, 3, 4, 5, 6, 7, 8] rfl rfl (by decide) (by decide) ht hk1 hFc hB
    clear hB hk1 hz1 hvm ht hPc hDc hKc hFc
    clear hP hD hS
    have hP : va_P G vwCl [(sh, .inr (1, [.ref r1, .ref r2, .ref r3, .ref r4, .int (nI rc), .int (nI bo), .int (-1)])), (r3, .inr (0, [.ref j3, .int (nI L3.length)])), (j3, .inl (cI, 30, .inl f3)), (r4, .inr (0, [.ref j4, .int (nI L4.length)])), (j4, .inl (cI, 30, .inl f4)), (r1, .inr (0, [.ref j1, .int (nI ((L1.eraseIdx (L1.idxOf jar)).length))])), (j1, .inl (cI, 30, .inl f_39)), (r2, .inr (0, [.ref j2, .int (nI ((jar :: L2).length))])), (j2, .inl (cI, 30, .inl f_44))] H_46 := hP1
    have hD : va_D A [(sh, .inr (1, [.ref r1, .ref r2, .ref r3, .ref r4, .int (nI rc), .int (nI bo), .int (-1)])), (r3, .inr (0, [.ref j3, .int (nI L3.length)])), (j3, .inl (cI, 30, .inl f3)), (r4, .inr (0, [.ref j4, .int (nI L4.length)])), (j4, .inl (cI, 30, .inl f4)), (r1, .inr (0, [.ref j1, .int (nI ((L1.eraseIdx (L1.idxOf jar)).length))])), (j1, .inl (cI, 30, .inl f_39)), (r2, .inr (0, [.ref j2, .int (nI ((jar :: L2).length))])), (j2, .inl (cI, 30, .inl f_44))] := hD1
    have hS := hS1
    clear hP1 hD1 hS1
    refine lv_iload_n hx hb dX1_serve_129 rfl (lv_at hl 1 rfl) ?_
    have hP9 := hP.sub (ws' := [(sh, .inr (1, [.ref r1, .ref r2, .ref r3, .ref r4, .int (nI rc), .int (nI bo), .int (-1)])), (r1, .inr (0, [.ref j1, .int (nI ((L1.eraseIdx (L1.idxOf jar)).length))])), (j1, .inl (cI, 30, .inl f_39)), (r2, .inr (0, [.ref j2, .int (nI ((jar :: L2).length))])), (j2, .inl (cI, 30, .inl f_44)), (r3, .inr (0, [.ref j3, .int (nI L3.length)])), (j3, .inl (cI, 30, .inl f3)), (r4, .inr (0, [.ref j4, .int (nI L4.length)])), (j4, .inl (cI, 30, .inl f4))]) [0, 5, 6, 7, 8, 1, 2, 3, 4] rfl
    have hD9 := hD.sub (ws' := [(sh, .inr (1, [.ref r1, .ref r2, .ref r3, .ref r4, .int (nI rc), .int (nI bo), .int (-1)])), (r1, .inr (0, [.ref j1, .int (nI ((L1.eraseIdx (L1.idxOf jar)).length))])), (j1, .inl (cI, 30, .inl f_39)), (r2, .inr (0, [.ref j2, .int (nI ((jar :: L2).length))])), (j2, .inl (cI, 30, .inl f_44)), (r3, .inr (0, [.ref j3, .int (nI L3.length)])), (j3, .inl (cI, 30, .inl f3)), (r4, .inr (0, [.ref j4, .int (nI L4.length)])), (j4, .inl (cI, 30, .inl f4))]) [0, 5, 6, 7, 8, 1, 2, 3, 4] (by decide) rfl
    exact W.iret (v := (nI 1)) hx hb hr (fun t ht hW => ⟨⟨(nI 1), (((L1.eraseIdx (L1.idxOf jar)), (jar :: L2), L3, L4), bo, (-1)), rfl, ⟨(by rw [hw0]), (by rw [(serve1 hw0).1, (serve1 hw0).2.1, (serve1 hw0).2.2]; rfl)⟩, _, _, _, _, hf_40, hf_45, hR3, hR4, g_at hP9 hK hD9 ht hW⟩, hS.F ht⟩) hS.2.2 dX1_serve_130
  · refine g_top (y := nI 2) (by rw [hw0]) ?_
    have mj : jar ∈ L2 := mj
    have mp := List.length_pos_of_mem mj
    refine lv_istore_n (lv' := [(2, .int (nI 2)), (0, .ref sh), (1, .int jar)]) hx hb dX1_serve_5 rfl hl (by decide) rfl (fun ls hl => ?_)
    refine lv_aload_n hx hb dX1_serve_6 rfl (lv_at hl 1 rfl) ?_
    refine lv_iload_n hx hb dX1_serve_7 rfl (lv_at hl 0 rfl) ?_
    have hPc := hP.sub (ws' := [(sh, .inr (1, [.ref r1, .ref r2, .ref r3, .ref r4, .int (nI rc), .int (nI bo), .int lv])), (r1, .inr (0, [.ref j1, .int (nI L1.length)])), (j1, .inl (cI, 30, .inl f1)), (r2, .inr (0, [.ref j2, .int (nI L2.length)])), (j2, .inl (cI, 30, .inl f2)), (r3, .inr (0, [.ref j3, .int (nI L3.length)])), (j3, .inl (cI, 30, .inl f3)), (r4, .inr (0, [.ref j4, .int (nI L4.length)])), (j4, .inl (cI, 30, .inl f4))]) [0, 1, 2, 3, 4, 5, 6, 7, 8] rfl
    have hDc := hD.sub (ws' := [(sh, .inr (1, [.ref r1, .ref r2, .ref r3, .ref r4, .int (nI rc), .int (nI bo), .int lv])), (r1, .inr (0, [.ref j1, .int (nI L1.length)])), (j1, .inl (cI, 30, .inl f1)), (r2, .inr (0, [.ref j2, .int (nI L2.length)])), (j2, .inl (cI, 30, .inl f2)), (r3, .inr (0, [.ref j3, .int (nI L3.length)])), (j3, .inl (cI, 30, .inl f3)), (r4, .inr (0, [.ref j4, .int (nI L4.length)])), (j4, .inl (cI, 30, .inl f4))]) [0, 1, 2, 3, 4, 5, 6, 7, 8] (by decide) rfl
    have hKc := hK.sub (tys' := [(cI, .int)]) [0] rfl
    have hFc := va_free (wc := [(sh, .inr (1, [.ref r1, .ref r2, .ref r3, .ref r4, .int (nI rc), .int (nI bo), .int lv])), (r1, .inr (0, [.ref j1, .int (nI L1.length)])), (j1, .inl (cI, 30, .inl f1)), (r2, .inr (0, [.ref j2, .int (nI L2.length)])), (j2, .inl (cI, 30, .inl f2)), (r3, .inr (0, [.ref j3, .int (nI L3.length)])), (j3, .inl (cI, 30, .inl f3)), (r4, .inr (0, [.ref j4, .int (nI L4.length)])), (j4, .inl (cI, 30, .inl f4))]) hD hS hA [0, 1, 2, 3, 4, 5, 6, 7, 8] rfl
    refine va_callq (va_runV (As := [.int (nI 2)]) (rest := []) ⟨hx, hb, hml, hown, hts⟩ (c_X1_rowAt_2 l G cI sh r1 r2 r3 r4 j1 j2 j3 j4 f1 f2 f3 f4 L1 L2 L3 L4 rc bo lv hR1 hR2 hR3 hR4  H_1.size) (cwV 1 hts gX1_serve_X1_rowAt rfl rfl rfl (by decide +kernel) ⟨Nat.le_of_ble_eq_true rfl, Nat.le_of_ble_eq_true rfl⟩) (g_preV (As := [.int (nI 2)]) hPc hKc hDc 0 rfl rfl) rfl rfl hl.1 rfl (lv_room (Nat.le_of_ble_eq_true rfl)) dX1_serve_8 ⟨(Nat.le_of_ble_eq_true rfl), (Nat.le_of_ble_eq_true rfl)⟩) hS (fun q _ h => hFc q h) hFc (fun r_50 u_51 t H_49 locs ht hvm hw hB hz1 hk1 hS1 => ?_)
    subst hw
    obtain ⟨hP1, hD1⟩ := g_join (wc := [(sh, .inr (1, [.ref r1, .ref r2, .ref r3, .ref r4, .int (nI rc), .int (nI bo), .int lv])), (r1, .inr (0, [.ref j1, .int (nI L1.length)])), (j1, .inl (cI, 30, .inl f1)), (r2, .inr (0, [.ref j2, .int (nI L2.length)])), (j2, .inl (cI, 30, .inl f2)), (r3, .inr (0, [.ref j3, .int (nI L3.length)])), (j3, .inl (cI, 30, .inl f3)), (r4, .inr (0, [.ref j4, .int (nI L4.length)])), (j4, .inl (cI, 30, .inl f4))]) (wr := []) (w1 := [(sh, .inr (1, [.ref r1, .ref r2, .ref r3, .ref r4, .int (nI rc), .int (nI bo), .int lv])), (r1, .inr (0, [.ref j1, .int (nI L1.length)])), (j1, .inl (cI, 30, .inl f1)), (r2, .inr (0, [.ref j2, .int (nI L2.length)])), (j2, .inl (cI, 30, .inl f2)), (r3, .inr (0, [.ref j3, .int (nI L3.length)])), (j3, .inl (cI, 30, .inl f3)), (r4, .inr (0, [.ref j4, .int (nI L4.length)])), (j4, .inl (cI, 30, .inl f4))]) hP hD [0, 1, 2, 3, 4, 5, 6, 7, 8] [] rfl rfl (by decide) (by decide) ht hk1 hFc hB
    clear hB hk1 hz1 hvm ht hPc hDc hKc hFc
    clear hP hD hS
    have hP : va_P G vwCl [(sh, .inr (1, [.ref r1, .ref r2, .ref r3, .ref r4, .int (nI rc), .int (nI bo), .int lv])), (r1, .inr (0, [.ref j1, .int (nI L1.length)])), (j1, .inl (cI, 30, .inl f1)), (r2, .inr (0, [.ref j2, .int (nI L2.length)])), (j2, .inl (cI, 30, .inl f2)), (r3, .inr (0, [.ref j3, .int (nI L3.length)])), (j3, .inl (cI, 30, .inl f3)), (r4, .inr (0, [.ref j4, .int (nI L4.length)])), (j4, .inl (cI, 30, .inl f4))] H_49 := hP1
    have hD : va_D A [(sh, .inr (1, [.ref r1, .ref r2, .ref r3, .ref r4, .int (nI rc), .int (nI bo), .int lv])), (r1, .inr (0, [.ref j1, .int (nI L1.length)])), (j1, .inl (cI, 30, .inl f1)), (r2, .inr (0, [.ref j2, .int (nI L2.length)])), (j2, .inl (cI, 30, .inl f2)), (r3, .inr (0, [.ref j3, .int (nI L3.length)])), (j3, .inl (cI, 30, .inl f3)), (r4, .inr (0, [.ref j4, .int (nI L4.length)])), (j4, .inl (cI, 30, .inl f4))] := hD1
    have hS := hS1
    clear hP1 hD1 hS1
    refine W.eq (g2 := F0 m 11 ls [.ref r2]) rfl ?_
    refine lv_astore_n (lv' := [(3, .ref r2), (2, .int (nI 2)), (0, .ref sh), (1, .int jar)]) hx hb dX1_serve_11 rfl hl (by decide) rfl (fun ls hl => ?_)
    refine lv_aload_n hx hb dX1_serve_12 rfl (lv_at hl 2 rfl) ?_
    refine lv_iconst (v := (-1)) hx hb dX1_serve_13 (by decide +kernel) ?_
    refine va_put (D := G) (ci := 1) (v := .int (-1)) (ty := .int) (C := RX1) (T := TX1) (N := 7) hx hb hts iX1_serve_X1 tyX1 tyX1_ok nmX1 hown hK hP hD hS 0 rfl rfl 6 (by decide) (hts (.fieldLink RX1 36 "GhostPantry$Shelves" "leaver" "I") (by decide +kernel)) (fun _ h9 => h9) rfl (by decide +kernel) rfl rfl (Nat.le_of_ble_eq_true rfl) dX1_serve_14 (fun H_52 locs hP1 hD1 hS1 => ?_)
    clear hP hD hS
    have hP : va_P G vwCl [(sh, .inr (1, [.ref r1, .ref r2, .ref r3, .ref r4, .int (nI rc), .int (nI bo), .int (-1)])), (r1, .inr (0, [.ref j1, .int (nI L1.length)])), (j1, .inl (cI, 30, .inl f1)), (r2, .inr (0, [.ref j2, .int (nI L2.length)])), (j2, .inl (cI, 30, .inl f2)), (r3, .inr (0, [.ref j3, .int (nI L3.length)])), (j3, .inl (cI, 30, .inl f3)), (r4, .inr (0, [.ref j4, .int (nI L4.length)])), (j4, .inl (cI, 30, .inl f4))] H_52 := hP1
    have hD : va_D A [(sh, .inr (1, [.ref r1, .ref r2, .ref r3, .ref r4, .int (nI rc), .int (nI bo), .int (-1)])), (r1, .inr (0, [.ref j1, .int (nI L1.length)])), (j1, .inl (cI, 30, .inl f1)), (r2, .inr (0, [.ref j2, .int (nI L2.length)])), (j2, .inl (cI, 30, .inl f2)), (r3, .inr (0, [.ref j3, .int (nI L3.length)])), (j3, .inl (cI, 30, .inl f3)), (r4, .inr (0, [.ref j4, .int (nI L4.length)])), (j4, .inl (cI, 30, .inl f4))] := hD1
    have hS := hS1
    clear hP1 hD1 hS1
    refine lv_aload_n hx hb dX1_serve_17 rfl (lv_at hl 0 rfl) ?_
    refine lv_ifnonnull (tgt := 35) hx hb dX1_serve_18 (by decide) ?_
    refine lv_iload_n hx hb dX1_serve_35 rfl (lv_at hl 1 rfl) ?_
    refine lv_iconst (v := (nI 3)) hx hb dX1_serve_36 (by decide +kernel) ?_
    refine g_icmp_ne (tgt := 76) hx hb dX1_serve_37 (by decide) (by decide) (by decide) (fun c_53 => ?_) (fun c_53 => False.elim (by omega))
    refine lv_iload_n hx hb dX1_serve_76 rfl (lv_at hl 1 rfl) ?_
    refine lv_iconst (v := (nI 4)) hx hb dX1_serve_77 (by decide +kernel) ?_
    refine g_icmp_ne (tgt := 111) hx hb dX1_serve_78 (by decide) (by decide) (by decide) (fun c_54 => ?_) (fun c_54 => False.elim (by omega))
    refine lv_aload_n hx hb dX1_serve_111 rfl (lv_at hl 0 rfl) ?_
    refine lv_aload_n hx hb dX1_serve_112 rfl (lv_at hl 0 rfl) ?_
    refine lv_iload_n hx hb dX1_serve_113 rfl (lv_at hl 3 rfl) ?_
    have hPc := hP.sub (ws' := [(r2, .inr (0, [.ref j2, .int (nI L2.length)])), (j2, .inl (cI, 30, .inl f2))]) [3, 4] rfl
    have hDc := hD.sub (ws' := [(r2, .inr (0, [.ref j2, .int (nI L2.length)])), (j2, .inl (cI, 30, .inl f2))]) [3, 4] (by decide) rfl
    have hKc := hK.sub (tys' := [(cI, .int)]) [0] rfl
    have hFc := va_free (wc := [(r2, .inr (0, [.ref j2, .int (nI L2.length)])), (j2, .inl (cI, 30, .inl f2))]) hD hS hA [3, 4] rfl
    refine va_calli (va_runV (As := [.int jar]) (rest := [.ref r2]) ⟨hx, hb, hml, hown, hts⟩ (c_X0_placeOf l G cI r2 j2 f2 L2 hR2 (by omega) jar H_52.size) (cwV 1 hts gX1_serve_X0_placeOf rfl rfl rfl (by decide +kernel) ⟨Nat.le_of_ble_eq_true rfl, Nat.le_of_ble_eq_true rfl⟩) (g_preV (As := [.int jar]) hPc hKc hDc 0 rfl rfl) rfl rfl hl.1 rfl (lv_room (Nat.le_of_ble_eq_true rfl)) dX1_serve_114 ⟨(Nat.le_of_ble_eq_true rfl), (Nat.le_of_ble_eq_true rfl)⟩) hS (fun q _ h => hFc q h) hFc (fun r_56 u_57 t H_55 locs ht hvm hw hB hz1 hk1 hS1 => ?_)
    subst hw
    obtain ⟨hP1, hD1⟩ := g_join (wc := [(r2, .inr (0, [.ref j2, .int (nI L2.length)])), (j2, .inl (cI, 30, .inl f2))]) (wr := [(sh, .inr (1, [.ref r1, .ref r2, .ref r3, .ref r4, .int (nI rc), .int (nI bo), .int (-1)])), (r1, .inr (0, [.ref j1, .int (nI L1.length)])), (j1, .inl (cI, 30, .inl f1)), (r3, .inr (0, [.ref j3, .int (nI L3.length)])), (j3, .inl (cI, 30, .inl f3)), (r4, .inr (0, [.ref j4, .int (nI L4.length)])), (j4, .inl (cI, 30, .inl f4))]) (w1 := [(r2, .inr (0, [.ref j2, .int (nI L2.length)])), (j2, .inl (cI, 30, .inl f2))]) hP hD [3, 4] [0, 1, 2, 5, 6, 7, 8] rfl rfl (by decide) (by decide) ht hk1 hFc hB
    clear hB hk1 hz1 hvm ht hPc hDc hKc hFc
    clear hP hD hS
    have hP : va_P G vwCl [(sh, .inr (1, [.ref r1, .ref r2, .ref r3, .ref r4, .int (nI rc), .int (nI bo), .int (-1)])), (r1, .inr (0, [.ref j1, .int (nI L1.length)])), (j1, .inl (cI, 30, .inl f1)), (r3, .inr (0, [.ref j3, .int (nI L3.length)])), (j3, .inl (cI, 30, .inl f3)), (r4, .inr (0, [.ref j4, .int (nI L4.length)])), (j4, .inl (cI, 30, .inl f4)), (r2, .inr (0, [.ref j2, .int (nI L2.length)])), (j2, .inl (cI, 30, .inl f2))] H_55 := hP1
    have hD : va_D A [(sh, .inr (1, [.ref r1, .ref r2, .ref r3, .ref r4, .int (nI rc), .int (nI bo), .int (-1)])), (r1, .inr (0, [.ref j1, .int (nI L1.length)])), (j1, .inl (cI, 30, .inl f1)), (r3, .inr (0, [.ref j3, .int (nI L3.length)])), (j3, .inl (cI, 30, .inl f3)), (r4, .inr (0, [.ref j4, .int (nI L4.length)])), (j4, .inl (cI, 30, .inl f4)), (r2, .inr (0, [.ref j2, .int (nI L2.length)])), (j2, .inl (cI, 30, .inl f2))] := hD1
    have hS := hS1
    clear hP1 hD1 hS1
    have mi := idx_lt mj
    have ml : (L2.eraseIdx (L2.idxOf jar)).length = L2.length - 1 := List.length_eraseIdx_of_lt mi
    refine g_top (y := nI (L2.idxOf jar)) (pos_idx mj) ?_
    have hPc := hP.sub (ws' := [(r2, .inr (0, [.ref j2, .int (nI L2.length)])), (j2, .inl (cI, 30, .inl f2))]) [7, 8] rfl
    have hDc := hD.sub (ws' := [(r2, .inr (0, [.ref j2, .int (nI L2.length)])), (j2, .inl (cI, 30, .inl f2))]) [7, 8] (by decide) rfl
    have hKc := hK.sub (tys' := [(cI, .int)]) [0] rfl
    have hFc := va_free (wc := [(r2, .inr (0, [.ref j2, .int (nI L2.length)])), (j2, .inl (cI, 30, .inl f2))]) hD hS hA [7, 8] rfl
    refine va_calli (va_runV (As := [.int (nI (L2.idxOf jar))]) (rest := []) ⟨hx, hb, hml, hown, hts⟩ (c_X0_takeAt l G cI r2 j2 f2 L2 hR2 (by omega) (L2.idxOf jar) (by first | omega | (simp only [List.length_cons, List.length_dropLast] at *; omega)) H_55.size) (cwV 1 hts gX1_serve_X0_takeAt rfl rfl rfl (by decide +kernel) ⟨Nat.le_of_ble_eq_true rfl, Nat.le_of_ble_eq_true rfl⟩) (g_preV (As := [.int (nI (L2.idxOf jar))]) hPc hKc hDc 0 rfl rfl) rfl rfl hl.1 rfl (lv_room (Nat.le_of_ble_eq_true rfl)) dX1_serve_117 ⟨(Nat.le_of_ble_eq_true rfl), (Nat.le_of_ble_eq_true rfl)⟩) hS (fun q _ h => hFc q h) hFc (fun r_61 u_62 t H_60 locs ht hvm hw hB hz1 hk1 hS1 => ?_)
    subst hw
    obtain ⟨f_58, hf_59, hB⟩ := hB
    obtain ⟨hP1, hD1⟩ := g_join (wc := [(r2, .inr (0, [.ref j2, .int (nI L2.length)])), (j2, .inl (cI, 30, .inl f2))]) (wr := [(sh, .inr (1, [.ref r1, .ref r2, .ref r3, .ref r4, .int (nI rc), .int (nI bo), .int (-1)])), (r1, .inr (0, [.ref j1, .int (nI L1.length)])), (j1, .inl (cI, 30, .inl f1)), (r3, .inr (0, [.ref j3, .int (nI L3.length)])), (j3, .inl (cI, 30, .inl f3)), (r4, .inr (0, [.ref j4, .int (nI L4.length)])), (j4, .inl (cI, 30, .inl f4))]) (w1 := [(r2, .inr (0, [.ref j2, .int (nI ((L2.eraseIdx (L2.idxOf jar)).length))])), (j2, .inl (cI, 30, .inl f_58))]) hP hD [7, 8] [0, 1, 2, 3, 4, 5, 6] rfl rfl (by decide) (by decide) ht hk1 hFc hB
    clear hB hk1 hz1 hvm ht hPc hDc hKc hFc
    clear hP hD hS
    have hP : va_P G vwCl [(sh, .inr (1, [.ref r1, .ref r2, .ref r3, .ref r4, .int (nI rc), .int (nI bo), .int (-1)])), (r1, .inr (0, [.ref j1, .int (nI L1.length)])), (j1, .inl (cI, 30, .inl f1)), (r3, .inr (0, [.ref j3, .int (nI L3.length)])), (j3, .inl (cI, 30, .inl f3)), (r4, .inr (0, [.ref j4, .int (nI L4.length)])), (j4, .inl (cI, 30, .inl f4)), (r2, .inr (0, [.ref j2, .int (nI ((L2.eraseIdx (L2.idxOf jar)).length))])), (j2, .inl (cI, 30, .inl f_58))] H_60 := hP1
    have hD : va_D A [(sh, .inr (1, [.ref r1, .ref r2, .ref r3, .ref r4, .int (nI rc), .int (nI bo), .int (-1)])), (r1, .inr (0, [.ref j1, .int (nI L1.length)])), (j1, .inl (cI, 30, .inl f1)), (r3, .inr (0, [.ref j3, .int (nI L3.length)])), (j3, .inl (cI, 30, .inl f3)), (r4, .inr (0, [.ref j4, .int (nI L4.length)])), (j4, .inl (cI, 30, .inl f4)), (r2, .inr (0, [.ref j2, .int (nI ((L2.eraseIdx (L2.idxOf jar)).length))])), (j2, .inl (cI, 30, .inl f_58))] := hD1
    have hS := hS1
    clear hP1 hD1 hS1
    refine lv_pop hx hb dX1_serve_120 rfl ?_
    refine lv_aload_n hx hb dX1_serve_121 rfl (lv_at hl 2 rfl) ?_
    refine va_get (D := G) (ci := 1) (v := .ref r2) (C := RX1) (T := TX1) (N := 7) hx hb hts iX1_serve_X1 hown hK hP 0 rfl rfl 1 (by decide) (hts (.fieldLink RX1 20 "GhostPantry$Shelves" "frequent" "LGhostPantry$Row;") (by decide +kernel)) (fun _ h9 => h9) rfl dX1_serve_122 ?_
    refine lv_iload_n hx hb dX1_serve_125 rfl (lv_at hl 3 rfl) ?_
    have hPc := hP.sub (ws' := [(r2, .inr (0, [.ref j2, .int (nI ((L2.eraseIdx (L2.idxOf jar)).length))])), (j2, .inl (cI, 30, .inl f_58))]) [7, 8] rfl
    have hDc := hD.sub (ws' := [(r2, .inr (0, [.ref j2, .int (nI ((L2.eraseIdx (L2.idxOf jar)).length))])), (j2, .inl (cI, 30, .inl f_58))]) [7, 8] (by decide) rfl
    have hKc := hK.sub (tys' := [(cI, .int)]) [0] rfl
    have hFc := va_free (wc := [(r2, .inr (0, [.ref j2, .int (nI ((L2.eraseIdx (L2.idxOf jar)).length))])), (j2, .inl (cI, 30, .inl f_58))]) hD hS hA [7, 8] rfl
    refine va_callv (va_runV (As := [.int jar]) (rest := []) ⟨hx, hb, hml, hown, hts⟩ (c_X0_putFirst l G cI r2 j2 f_58 (L2.eraseIdx (L2.idxOf jar)) hf_59 (by first | omega | (simp only [List.length_cons, List.length_dropLast] at *; omega)) jar (by first | omega | (simp only [List.length_cons, List.length_dropLast] at *; omega)) H_60.size) (cwV 1 hts gX1_serve_X0_putFirst rfl rfl rfl (by decide +kernel) ⟨Nat.le_of_ble_eq_true rfl, Nat.le_of_ble_eq_true rfl⟩) (g_preV (As := [.int jar]) hPc hKc hDc 0 rfl rfl) rfl rfl hl.1 rfl (lv_room (Nat.le_of_ble_eq_true rfl)) dX1_serve_126 ⟨(Nat.le_of_ble_eq_true rfl), (Nat.le_of_ble_eq_true rfl)⟩) hS (fun q _ h => hFc q h) hFc (fun u_67 t H_65 locs ht hvm hw hB hz1 hk1 hS1 => ?_)
    obtain ⟨f_63, hf_64, hB⟩ := hB
    obtain ⟨hP1, hD1⟩ := g_join (wc := [(r2, .inr (0, [.ref j2, .int (nI ((L2.eraseIdx (L2.idxOf jar)).length))])), (j2, .inl (cI, 30, .inl f_58))]) (wr := [(sh, .inr (1, [.ref r1, .ref r2, .ref r3, .ref r4, .int (nI rc), .int (nI bo), .int (-1)])), (r1, .inr (0, [.ref j1, .int (nI L1.length)])), (j1, .inl (cI, 30, .inl f1)), (r3, .inr (0, [.ref j3, .int (nI L3.length)])), (j3, .inl (cI, 30, .inl f3)), (r4, .inr (0, [.ref j4, .int (nI L4.length)])), (j4, .inl (cI, 30, .inl f4))]) (w1 := [(r2, .inr (0, [.ref j2, .int (nI ((jar :: (L2.eraseIdx (L2.idxOf jar))).length))])), (j2, .inl (cI, 30, .inl f_63))]) hP hD [7, 8] [0, 1, 2, 3, 4, 5, 6] rfl rfl (by decide) (by decide) ht hk1 hFc hB
    clear hB hk1 hz1 hvm ht hPc hDc hKc hFc
    clear hP hD hS
    have hP : va_P G vwCl [(sh, .inr (1, [.ref r1, .ref r2, .ref r3, .ref r4, .int (nI rc), .int (nI bo), .int (-1)])), (r1, .inr (0, [.ref j1, .int (nI L1.length)])), (j1, .inl (cI, 30, .inl f1)), (r3, .inr (0, [.ref j3, .int (nI L3.length)])), (j3, .inl (cI, 30, .inl f3)), (r4, .inr (0, [.ref j4, .int (nI L4.length)])), (j4, .inl (cI, 30, .inl f4)), (r2, .inr (0, [.ref j2, .int (nI ((jar :: (L2.eraseIdx (L2.idxOf jar))).length))])), (j2, .inl (cI, 30, .inl f_63))] H_65 := hP1
    have hD : va_D A [(sh, .inr (1, [.ref r1, .ref r2, .ref r3, .ref r4, .int (nI rc), .int (nI bo), .int (-1)])), (r1, .inr (0, [.ref j1, .int (nI L1.length)])), (j1, .inl (cI, 30, .inl f1)), (r3, .inr (0, [.ref j3, .int (nI L3.length)])), (j3, .inl (cI, 30, .inl f3)), (r4, .inr (0, [.ref j4, .int (nI L4.length)])), (j4, .inl (cI, 30, .inl f4)), (r2, .inr (0, [.ref j2, .int (nI ((jar :: (L2.eraseIdx (L2.idxOf jar))).length))])), (j2, .inl (cI, 30, .inl f_63))] := hD1
    have hS := hS1
    clear hP1 hD1 hS1
    refine lv_iload_n hx hb dX1_serve_129 rfl (lv_at hl 1 rfl) ?_
    have hP9 := hP.sub (ws' := [(sh, .inr (1, [.ref r1, .ref r2, .ref r3, .ref r4, .int (nI rc), .int (nI bo), .int (-1)])), (r1, .inr (0, [.ref j1, .int (nI L1.length)])), (j1, .inl (cI, 30, .inl f1)), (r2, .inr (0, [.ref j2, .int (nI ((jar :: (L2.eraseIdx (L2.idxOf jar))).length))])), (j2, .inl (cI, 30, .inl f_63)), (r3, .inr (0, [.ref j3, .int (nI L3.length)])), (j3, .inl (cI, 30, .inl f3)), (r4, .inr (0, [.ref j4, .int (nI L4.length)])), (j4, .inl (cI, 30, .inl f4))]) [0, 1, 2, 7, 8, 3, 4, 5, 6] rfl
    have hD9 := hD.sub (ws' := [(sh, .inr (1, [.ref r1, .ref r2, .ref r3, .ref r4, .int (nI rc), .int (nI bo), .int (-1)])), (r1, .inr (0, [.ref j1, .int (nI L1.length)])), (j1, .inl (cI, 30, .inl f1)), (r2, .inr (0, [.ref j2, .int (nI ((jar :: (L2.eraseIdx (L2.idxOf jar))).length))])), (j2, .inl (cI, 30, .inl f_63)), (r3, .inr (0, [.ref j3, .int (nI L3.length)])), (j3, .inl (cI, 30, .inl f3)), (r4, .inr (0, [.ref j4, .int (nI L4.length)])), (j4, .inl (cI, 30, .inl f4))]) [0, 1, 2, 7, 8, 3, 4, 5, 6] (by decide) rfl
    exact W.iret (v := (nI 2)) hx hb hr (fun t ht hW => ⟨⟨(nI 2), ((L1, (jar :: (L2.eraseIdx (L2.idxOf jar))), L3, L4), bo, (-1)), rfl, ⟨(by rw [hw0]), (by rw [(serve2 hw0).1, (serve2 hw0).2.1, (serve2 hw0).2.2]; rfl)⟩, _, _, _, _, hR1, hf_64, hR3, hR4, g_at hP9 hK hD9 ht hW⟩, hS.F ht⟩) hS.2.2 dX1_serve_130
  · refine g_top (y := nI 3) (by rw [hw0]) ?_
    have mj : jar ∈ L3 := mj
    have mp := List.length_pos_of_mem mj
    refine lv_istore_n (lv' := [(2, .int (nI 3)), (0, .ref sh), (1, .int jar)]) hx hb dX1_serve_5 rfl hl (by decide) rfl (fun ls hl => ?_)
    refine lv_aload_n hx hb dX1_serve_6 rfl (lv_at hl 1 rfl) ?_
    refine lv_iload_n hx hb dX1_serve_7 rfl (lv_at hl 0 rfl) ?_
    have hPc := hP.sub (ws' := [(sh, .inr (1, [.ref r1, .ref r2, .ref r3, .ref r4, .int (nI rc), .int (nI bo), .int lv])), (r1, .inr (0, [.ref j1, .int (nI L1.length)])), (j1, .inl (cI, 30, .inl f1)), (r2, .inr (0, [.ref j2, .int (nI L2.length)])), (j2, .inl (cI, 30, .inl f2)), (r3, .inr (0, [.ref j3, .int (nI L3.length)])), (j3, .inl (cI, 30, .inl f3)), (r4, .inr (0, [.ref j4, .int (nI L4.length)])), (j4, .inl (cI, 30, .inl f4))]) [0, 1, 2, 3, 4, 5, 6, 7, 8] rfl
    have hDc := hD.sub (ws' := [(sh, .inr (1, [.ref r1, .ref r2, .ref r3, .ref r4, .int (nI rc), .int (nI bo), .int lv])), (r1, .inr (0, [.ref j1, .int (nI L1.length)])), (j1, .inl (cI, 30, .inl f1)), (r2, .inr (0, [.ref j2, .int (nI L2.length)])), (j2, .inl (cI, 30, .inl f2)), (r3, .inr (0, [.ref j3, .int (nI L3.length)])), (j3, .inl (cI, 30, .inl f3)), (r4, .inr (0, [.ref j4, .int (nI L4.length)])), (j4, .inl (cI, 30, .inl f4))]) [0, 1, 2, 3, 4, 5, 6, 7, 8] (by decide) rfl
    have hKc := hK.sub (tys' := [(cI, .int)]) [0] rfl
    have hFc := va_free (wc := [(sh, .inr (1, [.ref r1, .ref r2, .ref r3, .ref r4, .int (nI rc), .int (nI bo), .int lv])), (r1, .inr (0, [.ref j1, .int (nI L1.length)])), (j1, .inl (cI, 30, .inl f1)), (r2, .inr (0, [.ref j2, .int (nI L2.length)])), (j2, .inl (cI, 30, .inl f2)), (r3, .inr (0, [.ref j3, .int (nI L3.length)])), (j3, .inl (cI, 30, .inl f3)), (r4, .inr (0, [.ref j4, .int (nI L4.length)])), (j4, .inl (cI, 30, .inl f4))]) hD hS hA [0, 1, 2, 3, 4, 5, 6, 7, 8] rfl
    refine va_callq (va_runV (As := [.int (nI 3)]) (rest := []) ⟨hx, hb, hml, hown, hts⟩ (c_X1_rowAt_3 l G cI sh r1 r2 r3 r4 j1 j2 j3 j4 f1 f2 f3 f4 L1 L2 L3 L4 rc bo lv hR1 hR2 hR3 hR4  H_1.size) (cwV 1 hts gX1_serve_X1_rowAt rfl rfl rfl (by decide +kernel) ⟨Nat.le_of_ble_eq_true rfl, Nat.le_of_ble_eq_true rfl⟩) (g_preV (As := [.int (nI 3)]) hPc hKc hDc 0 rfl rfl) rfl rfl hl.1 rfl (lv_room (Nat.le_of_ble_eq_true rfl)) dX1_serve_8 ⟨(Nat.le_of_ble_eq_true rfl), (Nat.le_of_ble_eq_true rfl)⟩) hS (fun q _ h => hFc q h) hFc (fun r_69 u_70 t H_68 locs ht hvm hw hB hz1 hk1 hS1 => ?_)
    subst hw
    obtain ⟨hP1, hD1⟩ := g_join (wc := [(sh, .inr (1, [.ref r1, .ref r2, .ref r3, .ref r4, .int (nI rc), .int (nI bo), .int lv])), (r1, .inr (0, [.ref j1, .int (nI L1.length)])), (j1, .inl (cI, 30, .inl f1)), (r2, .inr (0, [.ref j2, .int (nI L2.length)])), (j2, .inl (cI, 30, .inl f2)), (r3, .inr (0, [.ref j3, .int (nI L3.length)])), (j3, .inl (cI, 30, .inl f3)), (r4, .inr (0, [.ref j4, .int (nI L4.length)])), (j4, .inl (cI, 30, .inl f4))]) (wr := []) (w1 := [(sh, .inr (1, [.ref r1, .ref r2, .ref r3, .ref r4, .int (nI rc), .int (nI bo), .int lv])), (r1, .inr (0, [.ref j1, .int (nI L1.length)])), (j1, .inl (cI, 30, .inl f1)), (r2, .inr (0, [.ref j2, .int (nI L2.length)])), (j2, .inl (cI, 30, .inl f2)), (r3, .inr (0, [.ref j3, .int (nI L3.length)])), (j3, .inl (cI, 30, .inl f3)), (r4, .inr (0, [.ref j4, .int (nI L4.length)])), (j4, .inl (cI, 30, .inl f4))]) hP hD [0, 1, 2, 3, 4, 5, 6, 7, 8] [] rfl rfl (by decide) (by decide) ht hk1 hFc hB
    clear hB hk1 hz1 hvm ht hPc hDc hKc hFc
    clear hP hD hS
    have hP : va_P G vwCl [(sh, .inr (1, [.ref r1, .ref r2, .ref r3, .ref r4, .int (nI rc), .int (nI bo), .int lv])), (r1, .inr (0, [.ref j1, .int (nI L1.length)])), (j1, .inl (cI, 30, .inl f1)), (r2, .inr (0, [.ref j2, .int (nI L2.length)])), (j2, .inl (cI, 30, .inl f2)), (r3, .inr (0, [.ref j3, .int (nI L3.length)])), (j3, .inl (cI, 30, .inl f3)), (r4, .inr (0, [.ref j4, .int (nI L4.length)])), (j4, .inl (cI, 30, .inl f4))] H_68 := hP1
    have hD : va_D A [(sh, .inr (1, [.ref r1, .ref r2, .ref r3, .ref r4, .int (nI rc), .int (nI bo), .int lv])), (r1, .inr (0, [.ref j1, .int (nI L1.length)])), (j1, .inl (cI, 30, .inl f1)), (r2, .inr (0, [.ref j2, .int (nI L2.length)])), (j2, .inl (cI, 30, .inl f2)), (r3, .inr (0, [.ref j3, .int (nI L3.length)])), (j3, .inl (cI, 30, .inl f3)), (r4, .inr (0, [.ref j4, .int (nI L4.length)])), (j4, .inl (cI, 30, .inl f4))] := hD1
    have hS := hS1
    clear hP1 hD1 hS1
    refine W.eq (g2 := F0 m 11 ls [.ref r3]) rfl ?_
    refine lv_astore_n (lv' := [(3, .ref r3), (2, .int (nI 3)), (0, .ref sh), (1, .int jar)]) hx hb dX1_serve_11 rfl hl (by decide) rfl (fun ls hl => ?_)
    refine lv_aload_n hx hb dX1_serve_12 rfl (lv_at hl 2 rfl) ?_
    refine lv_iconst (v := (-1)) hx hb dX1_serve_13 (by decide +kernel) ?_
    refine va_put (D := G) (ci := 1) (v := .int (-1)) (ty := .int) (C := RX1) (T := TX1) (N := 7) hx hb hts iX1_serve_X1 tyX1 tyX1_ok nmX1 hown hK hP hD hS 0 rfl rfl 6 (by decide) (hts (.fieldLink RX1 36 "GhostPantry$Shelves" "leaver" "I") (by decide +kernel)) (fun _ h9 => h9) rfl (by decide +kernel) rfl rfl (Nat.le_of_ble_eq_true rfl) dX1_serve_14 (fun H_71 locs hP1 hD1 hS1 => ?_)
    clear hP hD hS
    have hP : va_P G vwCl [(sh, .inr (1, [.ref r1, .ref r2, .ref r3, .ref r4, .int (nI rc), .int (nI bo), .int (-1)])), (r1, .inr (0, [.ref j1, .int (nI L1.length)])), (j1, .inl (cI, 30, .inl f1)), (r2, .inr (0, [.ref j2, .int (nI L2.length)])), (j2, .inl (cI, 30, .inl f2)), (r3, .inr (0, [.ref j3, .int (nI L3.length)])), (j3, .inl (cI, 30, .inl f3)), (r4, .inr (0, [.ref j4, .int (nI L4.length)])), (j4, .inl (cI, 30, .inl f4))] H_71 := hP1
    have hD : va_D A [(sh, .inr (1, [.ref r1, .ref r2, .ref r3, .ref r4, .int (nI rc), .int (nI bo), .int (-1)])), (r1, .inr (0, [.ref j1, .int (nI L1.length)])), (j1, .inl (cI, 30, .inl f1)), (r2, .inr (0, [.ref j2, .int (nI L2.length)])), (j2, .inl (cI, 30, .inl f2)), (r3, .inr (0, [.ref j3, .int (nI L3.length)])), (j3, .inl (cI, 30, .inl f3)), (r4, .inr (0, [.ref j4, .int (nI L4.length)])), (j4, .inl (cI, 30, .inl f4))] := hD1
    have hS := hS1
    clear hP1 hD1 hS1
    refine lv_aload_n hx hb dX1_serve_17 rfl (lv_at hl 0 rfl) ?_
    refine lv_ifnonnull (tgt := 35) hx hb dX1_serve_18 (by decide) ?_
    refine lv_iload_n hx hb dX1_serve_35 rfl (lv_at hl 1 rfl) ?_
    refine lv_iconst (v := (nI 3)) hx hb dX1_serve_36 (by decide +kernel) ?_
    refine g_icmp_ne (tgt := 76) hx hb dX1_serve_37 (by decide) (by decide) (by decide) (fun c_72 => False.elim (by omega)) (fun c_72 => ?_)
    refine lv_aload_n hx hb dX1_serve_40 rfl (lv_at hl 2 rfl) ?_
    refine lv_aload_n hx hb dX1_serve_41 rfl (lv_at hl 2 rfl) ?_
    refine va_get (D := G) (ci := 1) (v := .int (nI rc)) (C := RX1) (T := TX1) (N := 7) hx hb hts iX1_serve_X1 hown hK hP 0 rfl rfl 4 (by decide) (hts (.fieldLink RX1 29 "GhostPantry$Shelves" "room" "I") (by decide +kernel)) (fun _ h9 => h9) rfl dX1_serve_42 ?_
    refine lv_aload_n hx hb dX1_serve_45 rfl (lv_at hl 2 rfl) ?_
    refine va_get (D := G) (ci := 1) (v := .int (nI bo)) (C := RX1) (T := TX1) (N := 7) hx hb hts iX1_serve_X1 hown hK hP 0 rfl rfl 5 (by decide) (hts (.fieldLink RX1 33 "GhostPantry$Shelves" "border" "I") (by decide +kernel)) (fun _ h9 => h9) rfl dX1_serve_46 ?_
    refine lv_aload_n hx hb dX1_serve_49 rfl (lv_at hl 2 rfl) ?_
    refine lv_aload_n hx hb dX1_serve_50 rfl (lv_at hl 2 rfl) ?_
    refine va_get (D := G) (ci := 1) (v := .ref r4) (C := RX1) (T := TX1) (N := 7) hx hb hts iX1_serve_X1 hown hK hP 0 rfl rfl 3 (by decide) (hts (.fieldLink RX1 26 "GhostPantry$Shelves" "frequentGhosts" "LGhostPantry$Row;") (by decide +kernel)) (fun _ h9 => h9) rfl dX1_serve_51 ?_
    refine lv_aload_n hx hb dX1_serve_54 rfl (lv_at hl 2 rfl) ?_
    refine va_get (D := G) (ci := 1) (v := .ref r3) (C := RX1) (T := TX1) (N := 7) hx hb hts iX1_serve_X1 hown hK hP 0 rfl rfl 2 (by decide) (hts (.fieldLink RX1 23 "GhostPantry$Shelves" "recentGhosts" "LGhostPantry$Row;") (by decide +kernel)) (fun _ h9 => h9) rfl dX1_serve_55 ?_
    have hPc := hP.sub (ws' := [(sh, .inr (1, [.ref r1, .ref r2, .ref r3, .ref r4, .int (nI rc), .int (nI bo), .int (-1)])), (r1, .inr (0, [.ref j1, .int (nI L1.length)])), (j1, .inl (cI, 30, .inl f1)), (r2, .inr (0, [.ref j2, .int (nI L2.length)])), (j2, .inl (cI, 30, .inl f2)), (r3, .inr (0, [.ref j3, .int (nI L3.length)])), (j3, .inl (cI, 30, .inl f3)), (r4, .inr (0, [.ref j4, .int (nI L4.length)])), (j4, .inl (cI, 30, .inl f4))]) [0, 1, 2, 3, 4, 5, 6, 7, 8] rfl
    have hDc := hD.sub (ws' := [(sh, .inr (1, [.ref r1, .ref r2, .ref r3, .ref r4, .int (nI rc), .int (nI bo), .int (-1)])), (r1, .inr (0, [.ref j1, .int (nI L1.length)])), (j1, .inl (cI, 30, .inl f1)), (r2, .inr (0, [.ref j2, .int (nI L2.length)])), (j2, .inl (cI, 30, .inl f2)), (r3, .inr (0, [.ref j3, .int (nI L3.length)])), (j3, .inl (cI, 30, .inl f3)), (r4, .inr (0, [.ref j4, .int (nI L4.length)])), (j4, .inl (cI, 30, .inl f4))]) [0, 1, 2, 3, 4, 5, 6, 7, 8] (by decide) rfl
    have hKc := hK.sub (tys' := [(cI, .int)]) [0] rfl
    have hFc := va_free (wc := [(sh, .inr (1, [.ref r1, .ref r2, .ref r3, .ref r4, .int (nI rc), .int (nI bo), .int (-1)])), (r1, .inr (0, [.ref j1, .int (nI L1.length)])), (j1, .inl (cI, 30, .inl f1)), (r2, .inr (0, [.ref j2, .int (nI L2.length)])), (j2, .inl (cI, 30, .inl f2)), (r3, .inr (0, [.ref j3, .int (nI L3.length)])), (j3, .inl (cI, 30, .inl f3)), (r4, .inr (0, [.ref j4, .int (nI L4.length)])), (j4, .inl (cI, 30, .inl f4))]) hD hS hA [0, 1, 2, 3, 4, 5, 6, 7, 8] rfl
    refine va_calli (va_runV (As := [.ref r4, .ref r3]) (rest := [.int (nI bo), .int (nI rc), .ref sh]) ⟨hx, hb, hml, hown, hts⟩ (c_X1_step_4 l G cI sh r1 r2 r3 r4 j1 j2 j3 j4 f1 f2 f3 f4 L1 L2 L3 L4 rc bo (-1) hR1 hR2 hR3 hR4 (by omega) (by omega) (by omega) H_71.size) (cwV 2 hts gX1_serve_X1_step rfl rfl rfl (by decide +kernel) ⟨Nat.le_of_ble_eq_true rfl, Nat.le_of_ble_eq_true rfl⟩) (g_preV (As := [.ref r4, .ref r3]) hPc hKc hDc 0 rfl rfl) rfl rfl hl.1 rfl (lv_room (Nat.le_of_ble_eq_true rfl)) dX1_serve_58 ⟨(Nat.le_of_ble_eq_true rfl), (Nat.le_of_ble_eq_true rfl)⟩) hS (fun q _ h => hFc q h) hFc (fun r_74 u_75 t H_73 locs ht hvm hw hB hz1 hk1 hS1 => ?_)
    subst hw
    obtain ⟨hP1, hD1⟩ := g_join (wc := [(sh, .inr (1, [.ref r1, .ref r2, .ref r3, .ref r4, .int (nI rc), .int (nI bo), .int (-1)])), (r1, .inr (0, [.ref j1, .int (nI L1.length)])), (j1, .inl (cI, 30, .inl f1)), (r2, .inr (0, [.ref j2, .int (nI L2.length)])), (j2, .inl (cI, 30, .inl f2)), (r3, .inr (0, [.ref j3, .int (nI L3.length)])), (j3, .inl (cI, 30, .inl f3)), (r4, .inr (0, [.ref j4, .int (nI L4.length)])), (j4, .inl (cI, 30, .inl f4))]) (wr := []) (w1 := [(sh, .inr (1, [.ref r1, .ref r2, .ref r3, .ref r4, .int (nI rc), .int (nI bo), .int (-1)])), (r1, .inr (0, [.ref j1, .int (nI L1.length)])), (j1, .inl (cI, 30, .inl f1)), (r2, .inr (0, [.ref j2, .int (nI L2.length)])), (j2, .inl (cI, 30, .inl f2)), (r3, .inr (0, [.ref j3, .int (nI L3.length)])), (j3, .inl (cI, 30, .inl f3)), (r4, .inr (0, [.ref j4, .int (nI L4.length)])), (j4, .inl (cI, 30, .inl f4))]) hP hD [0, 1, 2, 3, 4, 5, 6, 7, 8] [] rfl rfl (by decide) (by decide) ht hk1 hFc hB
    clear hB hk1 hz1 hvm ht hPc hDc hKc hFc
    clear hP hD hS
    have hP : va_P G vwCl [(sh, .inr (1, [.ref r1, .ref r2, .ref r3, .ref r4, .int (nI rc), .int (nI bo), .int (-1)])), (r1, .inr (0, [.ref j1, .int (nI L1.length)])), (j1, .inl (cI, 30, .inl f1)), (r2, .inr (0, [.ref j2, .int (nI L2.length)])), (j2, .inl (cI, 30, .inl f2)), (r3, .inr (0, [.ref j3, .int (nI L3.length)])), (j3, .inl (cI, 30, .inl f3)), (r4, .inr (0, [.ref j4, .int (nI L4.length)])), (j4, .inl (cI, 30, .inl f4))] H_73 := hP1
    have hD : va_D A [(sh, .inr (1, [.ref r1, .ref r2, .ref r3, .ref r4, .int (nI rc), .int (nI bo), .int (-1)])), (r1, .inr (0, [.ref j1, .int (nI L1.length)])), (j1, .inl (cI, 30, .inl f1)), (r2, .inr (0, [.ref j2, .int (nI L2.length)])), (j2, .inl (cI, 30, .inl f2)), (r3, .inr (0, [.ref j3, .int (nI L3.length)])), (j3, .inl (cI, 30, .inl f3)), (r4, .inr (0, [.ref j4, .int (nI L4.length)])), (j4, .inl (cI, 30, .inl f4))] := hD1
    have hS := hS1
    clear hP1 hD1 hS1
    have hstp : stp L4.length L3.length ≤ 24 := stp_le (by omega) (by omega)
    refine g_iadd hx hb dX1_serve_61 ?_
    refine g_mmin hx hb (hml.trans hl.1.symm) hown (hts (.methodLink RX1 67 Lib.Math.min.name) (by decide +kernel)) (hts (.static Lib.Math.min.name) (by decide +kernel)) (hts (.initialized "java/lang/Math") (by decide +kernel)) (hts (.code Lib.Math.min.name Lib.Math.min.code 2 (some .int)) (by decide +kernel)) (Nat.le_of_ble_eq_true rfl) (Nat.le_of_ble_eq_true rfl) (Nat.le_of_ble_eq_true rfl) (Nat.le_of_ble_eq_true rfl) (by omega) (by omega) dX1_serve_62 ?_
    obtain ⟨b1, eb⟩ : ∃ b1, b1 = min rc (bo + stp L4.length L3.length) := ⟨_, rfl⟩
    refine g_top (y := nI b1) (by rw [eb]) ?_
    have hb1 : b1 ≤ rc := by omega
    have hnb : Num rc b1 (L1, L2, L3, L4) := ⟨hn1, hn2, hb1, hn4, hn5, hn6⟩
    have es : sBord rc bo (L1, L2, L3, L4) jar = b1 := by rw [(serve3 hw0).1, eb]
    refine va_put (D := G) (ci := 1) (v := .int (nI b1)) (ty := .int) (C := RX1) (T := TX1) (N := 7) hx hb hts iX1_serve_X1 tyX1 tyX1_ok nmX1 hown hK hP hD hS 0 rfl rfl 5 (by decide) (hts (.fieldLink RX1 33 "GhostPantry$Shelves" "border" "I") (by decide +kernel)) (fun _ h9 => h9) rfl (by decide +kernel) rfl rfl (Nat.le_of_ble_eq_true rfl) dX1_serve_65 (fun H_76 locs hP1 hD1 hS1 => ?_)
    clear hP hD hS
    have hP : va_P G vwCl [(sh, .inr (1, [.ref r1, .ref r2, .ref r3, .ref r4, .int (nI rc), .int (nI b1), .int (-1)])), (r1, .inr (0, [.ref j1, .int (nI L1.length)])), (j1, .inl (cI, 30, .inl f1)), (r2, .inr (0, [.ref j2, .int (nI L2.length)])), (j2, .inl (cI, 30, .inl f2)), (r3, .inr (0, [.ref j3, .int (nI L3.length)])), (j3, .inl (cI, 30, .inl f3)), (r4, .inr (0, [.ref j4, .int (nI L4.length)])), (j4, .inl (cI, 30, .inl f4))] H_76 := hP1
    have hD : va_D A [(sh, .inr (1, [.ref r1, .ref r2, .ref r3, .ref r4, .int (nI rc), .int (nI b1), .int (-1)])), (r1, .inr (0, [.ref j1, .int (nI L1.length)])), (j1, .inl (cI, 30, .inl f1)), (r2, .inr (0, [.ref j2, .int (nI L2.length)])), (j2, .inl (cI, 30, .inl f2)), (r3, .inr (0, [.ref j3, .int (nI L3.length)])), (j3, .inl (cI, 30, .inl f3)), (r4, .inr (0, [.ref j4, .int (nI L4.length)])), (j4, .inl (cI, 30, .inl f4))] := hD1
    have hS := hS1
    clear hP1 hD1 hS1
    refine lv_aload_n hx hb dX1_serve_68 rfl (lv_at hl 2 rfl) ?_
    refine lv_iconst (v := (nI 0)) hx hb dX1_serve_69 (by decide +kernel) ?_
    have hPc := hP.sub (ws' := [(sh, .inr (1, [.ref r1, .ref r2, .ref r3, .ref r4, .int (nI rc), .int (nI b1), .int (-1)])), (r1, .inr (0, [.ref j1, .int (nI L1.length)])), (j1, .inl (cI, 30, .inl f1)), (r2, .inr (0, [.ref j2, .int (nI L2.length)])), (j2, .inl (cI, 30, .inl f2)), (r3, .inr (0, [.ref j3, .int (nI L3.length)])), (j3, .inl (cI, 30, .inl f3)), (r4, .inr (0, [.ref j4, .int (nI L4.length)])), (j4, .inl (cI, 30, .inl f4))]) [0, 1, 2, 3, 4, 5, 6, 7, 8] rfl
    have hDc := hD.sub (ws' := [(sh, .inr (1, [.ref r1, .ref r2, .ref r3, .ref r4, .int (nI rc), .int (nI b1), .int (-1)])), (r1, .inr (0, [.ref j1, .int (nI L1.length)])), (j1, .inl (cI, 30, .inl f1)), (r2, .inr (0, [.ref j2, .int (nI L2.length)])), (j2, .inl (cI, 30, .inl f2)), (r3, .inr (0, [.ref j3, .int (nI L3.length)])), (j3, .inl (cI, 30, .inl f3)), (r4, .inr (0, [.ref j4, .int (nI L4.length)])), (j4, .inl (cI, 30, .inl f4))]) [0, 1, 2, 3, 4, 5, 6, 7, 8] (by decide) rfl
    have hKc := hK.sub (tys' := [(cI, .int)]) [0] rfl
    have hFc := va_free (wc := [(sh, .inr (1, [.ref r1, .ref r2, .ref r3, .ref r4, .int (nI rc), .int (nI b1), .int (-1)])), (r1, .inr (0, [.ref j1, .int (nI L1.length)])), (j1, .inl (cI, 30, .inl f1)), (r2, .inr (0, [.ref j2, .int (nI L2.length)])), (j2, .inl (cI, 30, .inl f2)), (r3, .inr (0, [.ref j3, .int (nI L3.length)])), (j3, .inl (cI, 30, .inl f3)), (r4, .inr (0, [.ref j4, .int (nI L4.length)])), (j4, .inl (cI, 30, .inl f4))]) hD hS hA [0, 1, 2, 3, 4, 5, 6, 7, 8] rfl
    refine va_callv (va_runV (As := [.int (nI 0)]) (rest := []) ⟨hx, hb, hml, hown, hts⟩ (c_X1_makeRoom l G cI sh r1 r2 r3 r4 j1 j2 j3 j4 f1 f2 f3 f4 L1 L2 L3 L4 rc b1 (-1) hR1 hR2 hR3 hR4 hnb ⟨hj1, hj2, hj3, hj4⟩ false H_76.size) (cwV 1 hts gX1_serve_X1_makeRoom rfl rfl rfl (by decide +kernel) ⟨Nat.le_of_ble_eq_true rfl, Nat.le_of_ble_eq_true rfl⟩) (g_preV (As := [.int (nI 0)]) hPc hKc hDc 0 rfl rfl) rfl rfl hl.1 rfl (lv_room (Nat.le_of_ble_eq_true rfl)) dX1_serve_70 ⟨(Nat.le_of_ble_eq_true rfl), (Nat.le_of_ble_eq_true rfl)⟩) hS (fun q _ h => hFc q h) hFc (fun u_93 t H_91 locs ht hvm hw hB hz1 hk1 hS1 => ?_)
    obtain ⟨⟨M_77, M_78, M_79, M_80⟩, x_89⟩ := u_93
    obtain ⟨f_81, f_82, f_83, f_84, hf_85, hf_86, hf_87, hf_88, hB⟩ := hB
    have hf_85 : Rw f_81 M_77 := hf_85
    have hf_86 : Rw f_82 M_78 := hf_86
    have hf_87 : Rw f_83 M_79 := hf_87
    have hf_88 : Rw f_84 M_80 := hf_88
    have hqz_90 : (M_77, M_78, M_79, M_80) = sRoom rc b1 false (L1, L2, L3, L4) := congrArg Prod.fst hw
    have hxz_90 : x_89 = sRoomX rc b1 false (L1, L2, L3, L4) (-1) := congrArg Prod.snd hw
    have az_90 := room_lt (ff := false) hnb
    rw [← hqz_90] at az_90
    have bz_90 := room_sum (ff := false) hnb
    rw [← hqz_90] at bz_90
    dsimp only at az_90 bz_90
    obtain ⟨bz_901, bz_902, bz_903, bz_904⟩ := bz_90
    obtain ⟨hP1, hD1⟩ := g_join (wc := [(sh, .inr (1, [.ref r1, .ref r2, .ref r3, .ref r4, .int (nI rc), .int (nI b1), .int (-1)])), (r1, .inr (0, [.ref j1, .int (nI L1.length)])), (j1, .inl (cI, 30, .inl f1)), (r2, .inr (0, [.ref j2, .int (nI L2.length)])), (j2, .inl (cI, 30, .inl f2)), (r3, .inr (0, [.ref j3, .int (nI L3.length)])), (j3, .inl (cI, 30, .inl f3)), (r4, .inr (0, [.ref j4, .int (nI L4.length)])), (j4, .inl (cI, 30, .inl f4))]) (wr := []) (w1 := [(sh, .inr (1, [.ref r1, .ref r2, .ref r3, .ref r4, .int (nI rc), .int (nI b1), .int x_89])), (r1, .inr (0, [.ref j1, .int (nI M_77.length)])), (j1, .inl (cI, 30, .inl f_81)), (r2, .inr (0, [.ref j2, .int (nI M_78.length)])), (j2, .inl (cI, 30, .inl f_82)), (r3, .inr (0, [.ref j3, .int (nI M_79.length)])), (j3, .inl (cI, 30, .inl f_83)), (r4, .inr (0, [.ref j4, .int (nI M_80.length)])), (j4, .inl (cI, 30, .inl f_84))]) hP hD [0, 1, 2, 3, 4, 5, 6, 7, 8] [] rfl rfl (by decide) (by decide) ht hk1 hFc hB
    clear hB hk1 hz1 hvm ht hPc hDc hKc hFc
    clear hP hD hS
    have hP : va_P G vwCl [(sh, .inr (1, [.ref r1, .ref r2, .ref r3, .ref r4, .int (nI rc), .int (nI b1), .int x_89])), (r1, .inr (0, [.ref j1, .int (nI M_77.length)])), (j1, .inl (cI, 30, .inl f_81)), (r2, .inr (0, [.ref j2, .int (nI M_78.length)])), (j2, .inl (cI, 30, .inl f_82)), (r3, .inr (0, [.ref j3, .int (nI M_79.length)])), (j3, .inl (cI, 30, .inl f_83)), (r4, .inr (0, [.ref j4, .int (nI M_80.length)])), (j4, .inl (cI, 30, .inl f_84))] H_91 := hP1
    have hD : va_D A [(sh, .inr (1, [.ref r1, .ref r2, .ref r3, .ref r4, .int (nI rc), .int (nI b1), .int x_89])), (r1, .inr (0, [.ref j1, .int (nI M_77.length)])), (j1, .inl (cI, 30, .inl f_81)), (r2, .inr (0, [.ref j2, .int (nI M_78.length)])), (j2, .inl (cI, 30, .inl f_82)), (r3, .inr (0, [.ref j3, .int (nI M_79.length)])), (j3, .inl (cI, 30, .inl f_83)), (r4, .inr (0, [.ref j4, .int (nI M_80.length)])), (j4, .inl (cI, 30, .inl f_84))] := hD1
    have hS := hS1
    clear hP1 hD1 hS1
    refine lv_goto (tgt := 111) hx hb dX1_serve_73 (by decide) ?_
    refine lv_aload_n hx hb dX1_serve_111 rfl (lv_at hl 0 rfl) ?_
    refine lv_aload_n hx hb dX1_serve_112 rfl (lv_at hl 0 rfl) ?_
    refine lv_iload_n hx hb dX1_serve_113 rfl (lv_at hl 3 rfl) ?_
    have hPc := hP.sub (ws' := [(r3, .inr (0, [.ref j3, .int (nI M_79.length)])), (j3, .inl (cI, 30, .inl f_83))]) [5, 6] rfl
    have hDc := hD.sub (ws' := [(r3, .inr (0, [.ref j3, .int (nI M_79.length)])), (j3, .inl (cI, 30, .inl f_83))]) [5, 6] (by decide) rfl
    have hKc := hK.sub (tys' := [(cI, .int)]) [0] rfl
    have hFc := va_free (wc := [(r3, .inr (0, [.ref j3, .int (nI M_79.length)])), (j3, .inl (cI, 30, .inl f_83))]) hD hS hA [5, 6] rfl
    refine va_calli (va_runV (As := [.int jar]) (rest := [.ref r3]) ⟨hx, hb, hml, hown, hts⟩ (c_X0_placeOf l G cI r3 j3 f_83 M_79 hf_87 (by omega) jar H_91.size) (cwV 1 hts gX1_serve_X0_placeOf rfl rfl rfl (by decide +kernel) ⟨Nat.le_of_ble_eq_true rfl, Nat.le_of_ble_eq_true rfl⟩) (g_preV (As := [.int jar]) hPc hKc hDc 0 rfl rfl) rfl rfl hl.1 rfl (lv_room (Nat.le_of_ble_eq_true rfl)) dX1_serve_114 ⟨(Nat.le_of_ble_eq_true rfl), (Nat.le_of_ble_eq_true rfl)⟩) hS (fun q _ h => hFc q h) hFc (fun r_95 u_96 t H_94 locs ht hvm hw hB hz1 hk1 hS1 => ?_)
    subst hw
    obtain ⟨hP1, hD1⟩ := g_join (wc := [(r3, .inr (0, [.ref j3, .int (nI M_79.length)])), (j3, .inl (cI, 30, .inl f_83))]) (wr := [(sh, .inr (1, [.ref r1, .ref r2, .ref r3, .ref r4, .int (nI rc), .int (nI b1), .int x_89])), (r1, .inr (0, [.ref j1, .int (nI M_77.length)])), (j1, .inl (cI, 30, .inl f_81)), (r2, .inr (0, [.ref j2, .int (nI M_78.length)])), (j2, .inl (cI, 30, .inl f_82)), (r4, .inr (0, [.ref j4, .int (nI M_80.length)])), (j4, .inl (cI, 30, .inl f_84))]) (w1 := [(r3, .inr (0, [.ref j3, .int (nI M_79.length)])), (j3, .inl (cI, 30, .inl f_83))]) hP hD [5, 6] [0, 1, 2, 3, 4, 7, 8] rfl rfl (by decide) (by decide) ht hk1 hFc hB
    clear hB hk1 hz1 hvm ht hPc hDc hKc hFc
    clear hP hD hS
    have hP : va_P G vwCl [(sh, .inr (1, [.ref r1, .ref r2, .ref r3, .ref r4, .int (nI rc), .int (nI b1), .int x_89])), (r1, .inr (0, [.ref j1, .int (nI M_77.length)])), (j1, .inl (cI, 30, .inl f_81)), (r2, .inr (0, [.ref j2, .int (nI M_78.length)])), (j2, .inl (cI, 30, .inl f_82)), (r4, .inr (0, [.ref j4, .int (nI M_80.length)])), (j4, .inl (cI, 30, .inl f_84)), (r3, .inr (0, [.ref j3, .int (nI M_79.length)])), (j3, .inl (cI, 30, .inl f_83))] H_94 := hP1
    have hD : va_D A [(sh, .inr (1, [.ref r1, .ref r2, .ref r3, .ref r4, .int (nI rc), .int (nI b1), .int x_89])), (r1, .inr (0, [.ref j1, .int (nI M_77.length)])), (j1, .inl (cI, 30, .inl f_81)), (r2, .inr (0, [.ref j2, .int (nI M_78.length)])), (j2, .inl (cI, 30, .inl f_82)), (r4, .inr (0, [.ref j4, .int (nI M_80.length)])), (j4, .inl (cI, 30, .inl f_84)), (r3, .inr (0, [.ref j3, .int (nI M_79.length)])), (j3, .inl (cI, 30, .inl f_83))] := hD1
    have hS := hS1
    clear hP1 hD1 hS1
    have mj : jar ∈ M_79 := by
      have z := room_mem3 (ff := false) hnb mj
      rw [← hqz_90] at z
      exact z
    have mi := idx_lt mj
    have ml : (M_79.eraseIdx (M_79.idxOf jar)).length = M_79.length - 1 := List.length_eraseIdx_of_lt mi
    refine g_top (y := nI (M_79.idxOf jar)) (pos_idx mj) ?_
    have hPc := hP.sub (ws' := [(r3, .inr (0, [.ref j3, .int (nI M_79.length)])), (j3, .inl (cI, 30, .inl f_83))]) [7, 8] rfl
    have hDc := hD.sub (ws' := [(r3, .inr (0, [.ref j3, .int (nI M_79.length)])), (j3, .inl (cI, 30, .inl f_83))]) [7, 8] (by decide) rfl
    have hKc := hK.sub (tys' := [(cI, .int)]) [0] rfl
    have hFc := va_free (wc := [(r3, .inr (0, [.ref j3, .int (nI M_79.length)])), (j3, .inl (cI, 30, .inl f_83))]) hD hS hA [7, 8] rfl
    refine va_calli (va_runV (As := [.int (nI (M_79.idxOf jar))]) (rest := []) ⟨hx, hb, hml, hown, hts⟩ (c_X0_takeAt l G cI r3 j3 f_83 M_79 hf_87 (by omega) (M_79.idxOf jar) (by first | omega | (simp only [List.length_cons, List.length_dropLast] at *; omega)) H_94.size) (cwV 1 hts gX1_serve_X0_takeAt rfl rfl rfl (by decide +kernel) ⟨Nat.le_of_ble_eq_true rfl, Nat.le_of_ble_eq_true rfl⟩) (g_preV (As := [.int (nI (M_79.idxOf jar))]) hPc hKc hDc 0 rfl rfl) rfl rfl hl.1 rfl (lv_room (Nat.le_of_ble_eq_true rfl)) dX1_serve_117 ⟨(Nat.le_of_ble_eq_true rfl), (Nat.le_of_ble_eq_true rfl)⟩) hS (fun q _ h => hFc q h) hFc (fun r_100 u_101 t H_99 locs ht hvm hw hB hz1 hk1 hS1 => ?_)
    subst hw
    obtain ⟨f_97, hf_98, hB⟩ := hB
    obtain ⟨hP1, hD1⟩ := g_join (wc := [(r3, .inr (0, [.ref j3, .int (nI M_79.length)])), (j3, .inl (cI, 30, .inl f_83))]) (wr := [(sh, .inr (1, [.ref r1, .ref r2, .ref r3, .ref r4, .int (nI rc), .int (nI b1), .int x_89])), (r1, .inr (0, [.ref j1, .int (nI M_77.length)])), (j1, .inl (cI, 30, .inl f_81)), (r2, .inr (0, [.ref j2, .int (nI M_78.length)])), (j2, .inl (cI, 30, .inl f_82)), (r4, .inr (0, [.ref j4, .int (nI M_80.length)])), (j4, .inl (cI, 30, .inl f_84))]) (w1 := [(r3, .inr (0, [.ref j3, .int (nI ((M_79.eraseIdx (M_79.idxOf jar)).length))])), (j3, .inl (cI, 30, .inl f_97))]) hP hD [7, 8] [0, 1, 2, 3, 4, 5, 6] rfl rfl (by decide) (by decide) ht hk1 hFc hB
    clear hB hk1 hz1 hvm ht hPc hDc hKc hFc
    clear hP hD hS
    have hP : va_P G vwCl [(sh, .inr (1, [.ref r1, .ref r2, .ref r3, .ref r4, .int (nI rc), .int (nI b1), .int x_89])), (r1, .inr (0, [.ref j1, .int (nI M_77.length)])), (j1, .inl (cI, 30, .inl f_81)), (r2, .inr (0, [.ref j2, .int (nI M_78.length)])), (j2, .inl (cI, 30, .inl f_82)), (r4, .inr (0, [.ref j4, .int (nI M_80.length)])), (j4, .inl (cI, 30, .inl f_84)), (r3, .inr (0, [.ref j3, .int (nI ((M_79.eraseIdx (M_79.idxOf jar)).length))])), (j3, .inl (cI, 30, .inl f_97))] H_99 := hP1
    have hD : va_D A [(sh, .inr (1, [.ref r1, .ref r2, .ref r3, .ref r4, .int (nI rc), .int (nI b1), .int x_89])), (r1, .inr (0, [.ref j1, .int (nI M_77.length)])), (j1, .inl (cI, 30, .inl f_81)), (r2, .inr (0, [.ref j2, .int (nI M_78.length)])), (j2, .inl (cI, 30, .inl f_82)), (r4, .inr (0, [.ref j4, .int (nI M_80.length)])), (j4, .inl (cI, 30, .inl f_84)), (r3, .inr (0, [.ref j3, .int (nI ((M_79.eraseIdx (M_79.idxOf jar)).length))])), (j3, .inl (cI, 30, .inl f_97))] := hD1
    have hS := hS1
    clear hP1 hD1 hS1
    refine lv_pop hx hb dX1_serve_120 rfl ?_
    refine lv_aload_n hx hb dX1_serve_121 rfl (lv_at hl 2 rfl) ?_
    refine va_get (D := G) (ci := 1) (v := .ref r2) (C := RX1) (T := TX1) (N := 7) hx hb hts iX1_serve_X1 hown hK hP 0 rfl rfl 1 (by decide) (hts (.fieldLink RX1 20 "GhostPantry$Shelves" "frequent" "LGhostPantry$Row;") (by decide +kernel)) (fun _ h9 => h9) rfl dX1_serve_122 ?_
    refine lv_iload_n hx hb dX1_serve_125 rfl (lv_at hl 3 rfl) ?_
    have hPc := hP.sub (ws' := [(r2, .inr (0, [.ref j2, .int (nI M_78.length)])), (j2, .inl (cI, 30, .inl f_82))]) [3, 4] rfl
    have hDc := hD.sub (ws' := [(r2, .inr (0, [.ref j2, .int (nI M_78.length)])), (j2, .inl (cI, 30, .inl f_82))]) [3, 4] (by decide) rfl
    have hKc := hK.sub (tys' := [(cI, .int)]) [0] rfl
    have hFc := va_free (wc := [(r2, .inr (0, [.ref j2, .int (nI M_78.length)])), (j2, .inl (cI, 30, .inl f_82))]) hD hS hA [3, 4] rfl
    refine va_callv (va_runV (As := [.int jar]) (rest := []) ⟨hx, hb, hml, hown, hts⟩ (c_X0_putFirst l G cI r2 j2 f_82 M_78 hf_86 (by omega) jar (by first | omega | (simp only [List.length_cons, List.length_dropLast] at *; omega)) H_99.size) (cwV 1 hts gX1_serve_X0_putFirst rfl rfl rfl (by decide +kernel) ⟨Nat.le_of_ble_eq_true rfl, Nat.le_of_ble_eq_true rfl⟩) (g_preV (As := [.int jar]) hPc hKc hDc 0 rfl rfl) rfl rfl hl.1 rfl (lv_room (Nat.le_of_ble_eq_true rfl)) dX1_serve_126 ⟨(Nat.le_of_ble_eq_true rfl), (Nat.le_of_ble_eq_true rfl)⟩) hS (fun q _ h => hFc q h) hFc (fun u_106 t H_104 locs ht hvm hw hB hz1 hk1 hS1 => ?_)
    obtain ⟨f_102, hf_103, hB⟩ := hB
    obtain ⟨hP1, hD1⟩ := g_join (wc := [(r2, .inr (0, [.ref j2, .int (nI M_78.length)])), (j2, .inl (cI, 30, .inl f_82))]) (wr := [(sh, .inr (1, [.ref r1, .ref r2, .ref r3, .ref r4, .int (nI rc), .int (nI b1), .int x_89])), (r1, .inr (0, [.ref j1, .int (nI M_77.length)])), (j1, .inl (cI, 30, .inl f_81)), (r4, .inr (0, [.ref j4, .int (nI M_80.length)])), (j4, .inl (cI, 30, .inl f_84)), (r3, .inr (0, [.ref j3, .int (nI ((M_79.eraseIdx (M_79.idxOf jar)).length))])), (j3, .inl (cI, 30, .inl f_97))]) (w1 := [(r2, .inr (0, [.ref j2, .int (nI ((jar :: M_78).length))])), (j2, .inl (cI, 30, .inl f_102))]) hP hD [3, 4] [0, 1, 2, 5, 6, 7, 8] rfl rfl (by decide) (by decide) ht hk1 hFc hB
    clear hB hk1 hz1 hvm ht hPc hDc hKc hFc
    clear hP hD hS
    have hP : va_P G vwCl [(sh, .inr (1, [.ref r1, .ref r2, .ref r3, .ref r4, .int (nI rc), .int (nI b1), .int x_89])), (r1, .inr (0, [.ref j1, .int (nI M_77.length)])), (j1, .inl (cI, 30, .inl f_81)), (r4, .inr (0, [.ref j4, .int (nI M_80.length)])), (j4, .inl (cI, 30, .inl f_84)), (r3, .inr (0, [.ref j3, .int (nI ((M_79.eraseIdx (M_79.idxOf jar)).length))])), (j3, .inl (cI, 30, .inl f_97)), (r2, .inr (0, [.ref j2, .int (nI ((jar :: M_78).length))])), (j2, .inl (cI, 30, .inl f_102))] H_104 := hP1
    have hD : va_D A [(sh, .inr (1, [.ref r1, .ref r2, .ref r3, .ref r4, .int (nI rc), .int (nI b1), .int x_89])), (r1, .inr (0, [.ref j1, .int (nI M_77.length)])), (j1, .inl (cI, 30, .inl f_81)), (r4, .inr (0, [.ref j4, .int (nI M_80.length)])), (j4, .inl (cI, 30, .inl f_84)), (r3, .inr (0, [.ref j3, .int (nI ((M_79.eraseIdx (M_79.idxOf jar)).length))])), (j3, .inl (cI, 30, .inl f_97)), (r2, .inr (0, [.ref j2, .int (nI ((jar :: M_78).length))])), (j2, .inl (cI, 30, .inl f_102))] := hD1
    have hS := hS1
    clear hP1 hD1 hS1
    refine lv_iload_n hx hb dX1_serve_129 rfl (lv_at hl 1 rfl) ?_
    have hP9 := hP.sub (ws' := [(sh, .inr (1, [.ref r1, .ref r2, .ref r3, .ref r4, .int (nI rc), .int (nI b1), .int x_89])), (r1, .inr (0, [.ref j1, .int (nI M_77.length)])), (j1, .inl (cI, 30, .inl f_81)), (r2, .inr (0, [.ref j2, .int (nI ((jar :: M_78).length))])), (j2, .inl (cI, 30, .inl f_102)), (r3, .inr (0, [.ref j3, .int (nI ((M_79.eraseIdx (M_79.idxOf jar)).length))])), (j3, .inl (cI, 30, .inl f_97)), (r4, .inr (0, [.ref j4, .int (nI M_80.length)])), (j4, .inl (cI, 30, .inl f_84))]) [0, 1, 2, 7, 8, 5, 6, 3, 4] rfl
    have hD9 := hD.sub (ws' := [(sh, .inr (1, [.ref r1, .ref r2, .ref r3, .ref r4, .int (nI rc), .int (nI b1), .int x_89])), (r1, .inr (0, [.ref j1, .int (nI M_77.length)])), (j1, .inl (cI, 30, .inl f_81)), (r2, .inr (0, [.ref j2, .int (nI ((jar :: M_78).length))])), (j2, .inl (cI, 30, .inl f_102)), (r3, .inr (0, [.ref j3, .int (nI ((M_79.eraseIdx (M_79.idxOf jar)).length))])), (j3, .inl (cI, 30, .inl f_97)), (r4, .inr (0, [.ref j4, .int (nI M_80.length)])), (j4, .inl (cI, 30, .inl f_84))]) [0, 1, 2, 7, 8, 5, 6, 3, 4] (by decide) rfl
    exact W.iret (v := (nI 3)) hx hb hr (fun t ht hW => ⟨⟨(nI 3), ((M_77, (jar :: M_78), (M_79.eraseIdx (M_79.idxOf jar)), M_80), b1, x_89), rfl, ⟨(by rw [hw0]), (by rw [(serve3 hw0).2.1, (serve3 hw0).2.2, es, ← hqz_90, ← hxz_90]; rfl)⟩, _, _, _, _, hf_85, hf_103, hf_98, hf_88, g_at hP9 hK hD9 ht hW⟩, hS.F ht⟩) hS.2.2 dX1_serve_130
  · refine g_top (y := nI 4) (by rw [hw0]) ?_
    have mj : jar ∈ L4 := mj
    have mp := List.length_pos_of_mem mj
    refine lv_istore_n (lv' := [(2, .int (nI 4)), (0, .ref sh), (1, .int jar)]) hx hb dX1_serve_5 rfl hl (by decide) rfl (fun ls hl => ?_)
    refine lv_aload_n hx hb dX1_serve_6 rfl (lv_at hl 1 rfl) ?_
    refine lv_iload_n hx hb dX1_serve_7 rfl (lv_at hl 0 rfl) ?_
    have hPc := hP.sub (ws' := [(sh, .inr (1, [.ref r1, .ref r2, .ref r3, .ref r4, .int (nI rc), .int (nI bo), .int lv])), (r1, .inr (0, [.ref j1, .int (nI L1.length)])), (j1, .inl (cI, 30, .inl f1)), (r2, .inr (0, [.ref j2, .int (nI L2.length)])), (j2, .inl (cI, 30, .inl f2)), (r3, .inr (0, [.ref j3, .int (nI L3.length)])), (j3, .inl (cI, 30, .inl f3)), (r4, .inr (0, [.ref j4, .int (nI L4.length)])), (j4, .inl (cI, 30, .inl f4))]) [0, 1, 2, 3, 4, 5, 6, 7, 8] rfl
    have hDc := hD.sub (ws' := [(sh, .inr (1, [.ref r1, .ref r2, .ref r3, .ref r4, .int (nI rc), .int (nI bo), .int lv])), (r1, .inr (0, [.ref j1, .int (nI L1.length)])), (j1, .inl (cI, 30, .inl f1)), (r2, .inr (0, [.ref j2, .int (nI L2.length)])), (j2, .inl (cI, 30, .inl f2)), (r3, .inr (0, [.ref j3, .int (nI L3.length)])), (j3, .inl (cI, 30, .inl f3)), (r4, .inr (0, [.ref j4, .int (nI L4.length)])), (j4, .inl (cI, 30, .inl f4))]) [0, 1, 2, 3, 4, 5, 6, 7, 8] (by decide) rfl
    have hKc := hK.sub (tys' := [(cI, .int)]) [0] rfl
    have hFc := va_free (wc := [(sh, .inr (1, [.ref r1, .ref r2, .ref r3, .ref r4, .int (nI rc), .int (nI bo), .int lv])), (r1, .inr (0, [.ref j1, .int (nI L1.length)])), (j1, .inl (cI, 30, .inl f1)), (r2, .inr (0, [.ref j2, .int (nI L2.length)])), (j2, .inl (cI, 30, .inl f2)), (r3, .inr (0, [.ref j3, .int (nI L3.length)])), (j3, .inl (cI, 30, .inl f3)), (r4, .inr (0, [.ref j4, .int (nI L4.length)])), (j4, .inl (cI, 30, .inl f4))]) hD hS hA [0, 1, 2, 3, 4, 5, 6, 7, 8] rfl
    refine va_callq (va_runV (As := [.int (nI 4)]) (rest := []) ⟨hx, hb, hml, hown, hts⟩ (c_X1_rowAt_4 l G cI sh r1 r2 r3 r4 j1 j2 j3 j4 f1 f2 f3 f4 L1 L2 L3 L4 rc bo lv hR1 hR2 hR3 hR4  H_1.size) (cwV 1 hts gX1_serve_X1_rowAt rfl rfl rfl (by decide +kernel) ⟨Nat.le_of_ble_eq_true rfl, Nat.le_of_ble_eq_true rfl⟩) (g_preV (As := [.int (nI 4)]) hPc hKc hDc 0 rfl rfl) rfl rfl hl.1 rfl (lv_room (Nat.le_of_ble_eq_true rfl)) dX1_serve_8 ⟨(Nat.le_of_ble_eq_true rfl), (Nat.le_of_ble_eq_true rfl)⟩) hS (fun q _ h => hFc q h) hFc (fun r_108 u_109 t H_107 locs ht hvm hw hB hz1 hk1 hS1 => ?_)
    subst hw
    obtain ⟨hP1, hD1⟩ := g_join (wc := [(sh, .inr (1, [.ref r1, .ref r2, .ref r3, .ref r4, .int (nI rc), .int (nI bo), .int lv])), (r1, .inr (0, [.ref j1, .int (nI L1.length)])), (j1, .inl (cI, 30, .inl f1)), (r2, .inr (0, [.ref j2, .int (nI L2.length)])), (j2, .inl (cI, 30, .inl f2)), (r3, .inr (0, [.ref j3, .int (nI L3.length)])), (j3, .inl (cI, 30, .inl f3)), (r4, .inr (0, [.ref j4, .int (nI L4.length)])), (j4, .inl (cI, 30, .inl f4))]) (wr := []) (w1 := [(sh, .inr (1, [.ref r1, .ref r2, .ref r3, .ref r4, .int (nI rc), .int (nI bo), .int lv])), (r1, .inr (0, [.ref j1, .int (nI L1.length)])), (j1, .inl (cI, 30, .inl f1)), (r2, .inr (0, [.ref j2, .int (nI L2.length)])), (j2, .inl (cI, 30, .inl f2)), (r3, .inr (0, [.ref j3, .int (nI L3.length)])), (j3, .inl (cI, 30, .inl f3)), (r4, .inr (0, [.ref j4, .int (nI L4.length)])), (j4, .inl (cI, 30, .inl f4))]) hP hD [0, 1, 2, 3, 4, 5, 6, 7, 8] [] rfl rfl (by decide) (by decide) ht hk1 hFc hB
    clear hB hk1 hz1 hvm ht hPc hDc hKc hFc
    clear hP hD hS
    have hP : va_P G vwCl [(sh, .inr (1, [.ref r1, .ref r2, .ref r3, .ref r4, .int (nI rc), .int (nI bo), .int lv])), (r1, .inr (0, [.ref j1, .int (nI L1.length)])), (j1, .inl (cI, 30, .inl f1)), (r2, .inr (0, [.ref j2, .int (nI L2.length)])), (j2, .inl (cI, 30, .inl f2)), (r3, .inr (0, [.ref j3, .int (nI L3.length)])), (j3, .inl (cI, 30, .inl f3)), (r4, .inr (0, [.ref j4, .int (nI L4.length)])), (j4, .inl (cI, 30, .inl f4))] H_107 := hP1
    have hD : va_D A [(sh, .inr (1, [.ref r1, .ref r2, .ref r3, .ref r4, .int (nI rc), .int (nI bo), .int lv])), (r1, .inr (0, [.ref j1, .int (nI L1.length)])), (j1, .inl (cI, 30, .inl f1)), (r2, .inr (0, [.ref j2, .int (nI L2.length)])), (j2, .inl (cI, 30, .inl f2)), (r3, .inr (0, [.ref j3, .int (nI L3.length)])), (j3, .inl (cI, 30, .inl f3)), (r4, .inr (0, [.ref j4, .int (nI L4.length)])), (j4, .inl (cI, 30, .inl f4))] := hD1
    have hS := hS1
    clear hP1 hD1 hS1
    refine W.eq (g2 := F0 m 11 ls [.ref r4]) rfl ?_
    refine lv_astore_n (lv' := [(3, .ref r4), (2, .int (nI 4)), (0, .ref sh), (1, .int jar)]) hx hb dX1_serve_11 rfl hl (by decide) rfl (fun ls hl => ?_)
    refine lv_aload_n hx hb dX1_serve_12 rfl (lv_at hl 2 rfl) ?_
    refine lv_iconst (v := (-1)) hx hb dX1_serve_13 (by decide +kernel) ?_
    refine va_put (D := G) (ci := 1) (v := .int (-1)) (ty := .int) (C := RX1) (T := TX1) (N := 7) hx hb hts iX1_serve_X1 tyX1 tyX1_ok nmX1 hown hK hP hD hS 0 rfl rfl 6 (by decide) (hts (.fieldLink RX1 36 "GhostPantry$Shelves" "leaver" "I") (by decide +kernel)) (fun _ h9 => h9) rfl (by decide +kernel) rfl rfl (Nat.le_of_ble_eq_true rfl) dX1_serve_14 (fun H_110 locs hP1 hD1 hS1 => ?_)
    clear hP hD hS
    have hP : va_P G vwCl [(sh, .inr (1, [.ref r1, .ref r2, .ref r3, .ref r4, .int (nI rc), .int (nI bo), .int (-1)])), (r1, .inr (0, [.ref j1, .int (nI L1.length)])), (j1, .inl (cI, 30, .inl f1)), (r2, .inr (0, [.ref j2, .int (nI L2.length)])), (j2, .inl (cI, 30, .inl f2)), (r3, .inr (0, [.ref j3, .int (nI L3.length)])), (j3, .inl (cI, 30, .inl f3)), (r4, .inr (0, [.ref j4, .int (nI L4.length)])), (j4, .inl (cI, 30, .inl f4))] H_110 := hP1
    have hD : va_D A [(sh, .inr (1, [.ref r1, .ref r2, .ref r3, .ref r4, .int (nI rc), .int (nI bo), .int (-1)])), (r1, .inr (0, [.ref j1, .int (nI L1.length)])), (j1, .inl (cI, 30, .inl f1)), (r2, .inr (0, [.ref j2, .int (nI L2.length)])), (j2, .inl (cI, 30, .inl f2)), (r3, .inr (0, [.ref j3, .int (nI L3.length)])), (j3, .inl (cI, 30, .inl f3)), (r4, .inr (0, [.ref j4, .int (nI L4.length)])), (j4, .inl (cI, 30, .inl f4))] := hD1
    have hS := hS1
    clear hP1 hD1 hS1
    refine lv_aload_n hx hb dX1_serve_17 rfl (lv_at hl 0 rfl) ?_
    refine lv_ifnonnull (tgt := 35) hx hb dX1_serve_18 (by decide) ?_
    refine lv_iload_n hx hb dX1_serve_35 rfl (lv_at hl 1 rfl) ?_
    refine lv_iconst (v := (nI 3)) hx hb dX1_serve_36 (by decide +kernel) ?_
    refine g_icmp_ne (tgt := 76) hx hb dX1_serve_37 (by decide) (by decide) (by decide) (fun c_111 => ?_) (fun c_111 => False.elim (by omega))
    refine lv_iload_n hx hb dX1_serve_76 rfl (lv_at hl 1 rfl) ?_
    refine lv_iconst (v := (nI 4)) hx hb dX1_serve_77 (by decide +kernel) ?_
    refine g_icmp_ne (tgt := 111) hx hb dX1_serve_78 (by decide) (by decide) (by decide) (fun c_112 => False.elim (by omega)) (fun c_112 => ?_)
    refine lv_aload_n hx hb dX1_serve_81 rfl (lv_at hl 2 rfl) ?_
    refine lv_iconst (v := (nI 0)) hx hb dX1_serve_82 (by decide +kernel) ?_
    refine lv_aload_n hx hb dX1_serve_83 rfl (lv_at hl 2 rfl) ?_
    refine va_get (D := G) (ci := 1) (v := .int (nI bo)) (C := RX1) (T := TX1) (N := 7) hx hb hts iX1_serve_X1 hown hK hP 0 rfl rfl 5 (by decide) (hts (.fieldLink RX1 33 "GhostPantry$Shelves" "border" "I") (by decide +kernel)) (fun _ h9 => h9) rfl dX1_serve_84 ?_
    refine lv_aload_n hx hb dX1_serve_87 rfl (lv_at hl 2 rfl) ?_
    refine lv_aload_n hx hb dX1_serve_88 rfl (lv_at hl 2 rfl) ?_
    refine va_get (D := G) (ci := 1) (v := .ref r3) (C := RX1) (T := TX1) (N := 7) hx hb hts iX1_serve_X1 hown hK hP 0 rfl rfl 2 (by decide) (hts (.fieldLink RX1 23 "GhostPantry$Shelves" "recentGhosts" "LGhostPantry$Row;") (by decide +kernel)) (fun _ h9 => h9) rfl dX1_serve_89 ?_
    refine lv_aload_n hx hb dX1_serve_92 rfl (lv_at hl 2 rfl) ?_
    refine va_get (D := G) (ci := 1) (v := .ref r4) (C := RX1) (T := TX1) (N := 7) hx hb hts iX1_serve_X1 hown hK hP 0 rfl rfl 3 (by decide) (hts (.fieldLink RX1 26 "GhostPantry$Shelves" "frequentGhosts" "LGhostPantry$Row;") (by decide +kernel)) (fun _ h9 => h9) rfl dX1_serve_93 ?_
    have hPc := hP.sub (ws' := [(sh, .inr (1, [.ref r1, .ref r2, .ref r3, .ref r4, .int (nI rc), .int (nI bo), .int (-1)])), (r1, .inr (0, [.ref j1, .int (nI L1.length)])), (j1, .inl (cI, 30, .inl f1)), (r2, .inr (0, [.ref j2, .int (nI L2.length)])), (j2, .inl (cI, 30, .inl f2)), (r3, .inr (0, [.ref j3, .int (nI L3.length)])), (j3, .inl (cI, 30, .inl f3)), (r4, .inr (0, [.ref j4, .int (nI L4.length)])), (j4, .inl (cI, 30, .inl f4))]) [0, 1, 2, 3, 4, 5, 6, 7, 8] rfl
    have hDc := hD.sub (ws' := [(sh, .inr (1, [.ref r1, .ref r2, .ref r3, .ref r4, .int (nI rc), .int (nI bo), .int (-1)])), (r1, .inr (0, [.ref j1, .int (nI L1.length)])), (j1, .inl (cI, 30, .inl f1)), (r2, .inr (0, [.ref j2, .int (nI L2.length)])), (j2, .inl (cI, 30, .inl f2)), (r3, .inr (0, [.ref j3, .int (nI L3.length)])), (j3, .inl (cI, 30, .inl f3)), (r4, .inr (0, [.ref j4, .int (nI L4.length)])), (j4, .inl (cI, 30, .inl f4))]) [0, 1, 2, 3, 4, 5, 6, 7, 8] (by decide) rfl
    have hKc := hK.sub (tys' := [(cI, .int)]) [0] rfl
    have hFc := va_free (wc := [(sh, .inr (1, [.ref r1, .ref r2, .ref r3, .ref r4, .int (nI rc), .int (nI bo), .int (-1)])), (r1, .inr (0, [.ref j1, .int (nI L1.length)])), (j1, .inl (cI, 30, .inl f1)), (r2, .inr (0, [.ref j2, .int (nI L2.length)])), (j2, .inl (cI, 30, .inl f2)), (r3, .inr (0, [.ref j3, .int (nI L3.length)])), (j3, .inl (cI, 30, .inl f3)), (r4, .inr (0, [.ref j4, .int (nI L4.length)])), (j4, .inl (cI, 30, .inl f4))]) hD hS hA [0, 1, 2, 3, 4, 5, 6, 7, 8] rfl
    refine va_calli (va_runV (As := [.ref r3, .ref r4]) (rest := [.int (nI bo), .int (nI 0), .ref sh]) ⟨hx, hb, hml, hown, hts⟩ (c_X1_step_3 l G cI sh r1 r2 r3 r4 j1 j2 j3 j4 f1 f2 f3 f4 L1 L2 L3 L4 rc bo (-1) hR1 hR2 hR3 hR4 (by omega) (by omega) (by omega) H_110.size) (cwV 2 hts gX1_serve_X1_step rfl rfl rfl (by decide +kernel) ⟨Nat.le_of_ble_eq_true rfl, Nat.le_of_ble_eq_true rfl⟩) (g_preV (As := [.ref r3, .ref r4]) hPc hKc hDc 0 rfl rfl) rfl rfl hl.1 rfl (lv_room (Nat.le_of_ble_eq_true rfl)) dX1_serve_96 ⟨(Nat.le_of_ble_eq_true rfl), (Nat.le_of_ble_eq_true rfl)⟩) hS (fun q _ h => hFc q h) hFc (fun r_114 u_115 t H_113 locs ht hvm hw hB hz1 hk1 hS1 => ?_)
    subst hw
    obtain ⟨hP1, hD1⟩ := g_join (wc := [(sh, .inr (1, [.ref r1, .ref r2, .ref r3, .ref r4, .int (nI rc), .int (nI bo), .int (-1)])), (r1, .inr (0, [.ref j1, .int (nI L1.length)])), (j1, .inl (cI, 30, .inl f1)), (r2, .inr (0, [.ref j2, .int (nI L2.length)])), (j2, .inl (cI, 30, .inl f2)), (r3, .inr (0, [.ref j3, .int (nI L3.length)])), (j3, .inl (cI, 30, .inl f3)), (r4, .inr (0, [.ref j4, .int (nI L4.length)])), (j4, .inl (cI, 30, .inl f4))]) (wr := []) (w1 := [(sh, .inr (1, [.ref r1, .ref r2, .ref r3, .ref r4, .int (nI rc), .int (nI bo), .int (-1)])), (r1, .inr (0, [.ref j1, .int (nI L1.length)])), (j1, .inl (cI, 30, .inl f1)), (r2, .inr (0, [.ref j2, .int (nI L2.length)])), (j2, .inl (cI, 30, .inl f2)), (r3, .inr (0, [.ref j3, .int (nI L3.length)])), (j3, .inl (cI, 30, .inl f3)), (r4, .inr (0, [.ref j4, .int (nI L4.length)])), (j4, .inl (cI, 30, .inl f4))]) hP hD [0, 1, 2, 3, 4, 5, 6, 7, 8] [] rfl rfl (by decide) (by decide) ht hk1 hFc hB
    clear hB hk1 hz1 hvm ht hPc hDc hKc hFc
    clear hP hD hS
    have hP : va_P G vwCl [(sh, .inr (1, [.ref r1, .ref r2, .ref r3, .ref r4, .int (nI rc), .int (nI bo), .int (-1)])), (r1, .inr (0, [.ref j1, .int (nI L1.length)])), (j1, .inl (cI, 30, .inl f1)), (r2, .inr (0, [.ref j2, .int (nI L2.length)])), (j2, .inl (cI, 30, .inl f2)), (r3, .inr (0, [.ref j3, .int (nI L3.length)])), (j3, .inl (cI, 30, .inl f3)), (r4, .inr (0, [.ref j4, .int (nI L4.length)])), (j4, .inl (cI, 30, .inl f4))] H_113 := hP1
    have hD : va_D A [(sh, .inr (1, [.ref r1, .ref r2, .ref r3, .ref r4, .int (nI rc), .int (nI bo), .int (-1)])), (r1, .inr (0, [.ref j1, .int (nI L1.length)])), (j1, .inl (cI, 30, .inl f1)), (r2, .inr (0, [.ref j2, .int (nI L2.length)])), (j2, .inl (cI, 30, .inl f2)), (r3, .inr (0, [.ref j3, .int (nI L3.length)])), (j3, .inl (cI, 30, .inl f3)), (r4, .inr (0, [.ref j4, .int (nI L4.length)])), (j4, .inl (cI, 30, .inl f4))] := hD1
    have hS := hS1
    clear hP1 hD1 hS1
    have hstp : stp L3.length L4.length ≤ 24 := stp_le (by omega) (by omega)
    refine lv_isub hx hb dX1_serve_99 ?_
    refine va_mmax hx hb (hml.trans hl.1.symm) hown (hts (.methodLink RX1 77 Lib.Math.max.name) (by decide +kernel)) (hts (.static Lib.Math.max.name) (by decide +kernel)) (hts (.initialized "java/lang/Math") (by decide +kernel)) (hts (.code Lib.Math.max.name Lib.Math.max.code 2 (some .int)) (by decide +kernel)) (Nat.le_of_ble_eq_true rfl) (Nat.le_of_ble_eq_true rfl) (Nat.le_of_ble_eq_true rfl) (Nat.le_of_ble_eq_true rfl) dX1_serve_100 ?_
    obtain ⟨b1, eb⟩ : ∃ b1, b1 = bo - stp L3.length L4.length := ⟨_, rfl⟩
    refine g_top (y := nI b1) (by rw [eb]; exact max_sub (by omega) (by omega)) ?_
    have hb1 : b1 ≤ rc := by omega
    have hnb : Num rc b1 (L1, L2, L3, L4) := ⟨hn1, hn2, hb1, hn4, hn5, hn6⟩
    have es : sBord rc bo (L1, L2, L3, L4) jar = b1 := by rw [(serve4 hw0).1, eb]
    refine va_put (D := G) (ci := 1) (v := .int (nI b1)) (ty := .int) (C := RX1) (T := TX1) (N := 7) hx hb hts iX1_serve_X1 tyX1 tyX1_ok nmX1 hown hK hP hD hS 0 rfl rfl 5 (by decide) (hts (.fieldLink RX1 33 "GhostPantry$Shelves" "border" "I") (by decide +kernel)) (fun _ h9 => h9) rfl (by decide +kernel) rfl rfl (Nat.le_of_ble_eq_true rfl) dX1_serve_103 (fun H_116 locs hP1 hD1 hS1 => ?_)
    clear hP hD hS
    have hP : va_P G vwCl [(sh, .inr (1, [.ref r1, .ref r2, .ref r3, .ref r4, .int (nI rc), .int (nI b1), .int (-1)])), (r1, .inr (0, [.ref j1, .int (nI L1.length)])), (j1, .inl (cI, 30, .inl f1)), (r2, .inr (0, [.ref j2, .int (nI L2.length)])), (j2, .inl (cI, 30, .inl f2)), (r3, .inr (0, [.ref j3, .int (nI L3.length)])), (j3, .inl (cI, 30, .inl f3)), (r4, .inr (0, [.ref j4, .int (nI L4.length)])), (j4, .inl (cI, 30, .inl f4))] H_116 := hP1
    have hD : va_D A [(sh, .inr (1, [.ref r1, .ref r2, .ref r3, .ref r4, .int (nI rc), .int (nI b1), .int (-1)])), (r1, .inr (0, [.ref j1, .int (nI L1.length)])), (j1, .inl (cI, 30, .inl f1)), (r2, .inr (0, [.ref j2, .int (nI L2.length)])), (j2, .inl (cI, 30, .inl f2)), (r3, .inr (0, [.ref j3, .int (nI L3.length)])), (j3, .inl (cI, 30, .inl f3)), (r4, .inr (0, [.ref j4, .int (nI L4.length)])), (j4, .inl (cI, 30, .inl f4))] := hD1
    have hS := hS1
    clear hP1 hD1 hS1
    refine lv_aload_n hx hb dX1_serve_106 rfl (lv_at hl 2 rfl) ?_
    refine lv_iconst (v := (nI 1)) hx hb dX1_serve_107 (by decide +kernel) ?_
    have hPc := hP.sub (ws' := [(sh, .inr (1, [.ref r1, .ref r2, .ref r3, .ref r4, .int (nI rc), .int (nI b1), .int (-1)])), (r1, .inr (0, [.ref j1, .int (nI L1.length)])), (j1, .inl (cI, 30, .inl f1)), (r2, .inr (0, [.ref j2, .int (nI L2.length)])), (j2, .inl (cI, 30, .inl f2)), (r3, .inr (0, [.ref j3, .int (nI L3.length)])), (j3, .inl (cI, 30, .inl f3)), (r4, .inr (0, [.ref j4, .int (nI L4.length)])), (j4, .inl (cI, 30, .inl f4))]) [0, 1, 2, 3, 4, 5, 6, 7, 8] rfl
    have hDc := hD.sub (ws' := [(sh, .inr (1, [.ref r1, .ref r2, .ref r3, .ref r4, .int (nI rc), .int (nI b1), .int (-1)])), (r1, .inr (0, [.ref j1, .int (nI L1.length)])), (j1, .inl (cI, 30, .inl f1)), (r2, .inr (0, [.ref j2, .int (nI L2.length)])), (j2, .inl (cI, 30, .inl f2)), (r3, .inr (0, [.ref j3, .int (nI L3.length)])), (j3, .inl (cI, 30, .inl f3)), (r4, .inr (0, [.ref j4, .int (nI L4.length)])), (j4, .inl (cI, 30, .inl f4))]) [0, 1, 2, 3, 4, 5, 6, 7, 8] (by decide) rfl
    have hKc := hK.sub (tys' := [(cI, .int)]) [0] rfl
    have hFc := va_free (wc := [(sh, .inr (1, [.ref r1, .ref r2, .ref r3, .ref r4, .int (nI rc), .int (nI b1), .int (-1)])), (r1, .inr (0, [.ref j1, .int (nI L1.length)])), (j1, .inl (cI, 30, .inl f1)), (r2, .inr (0, [.ref j2, .int (nI L2.length)])), (j2, .inl (cI, 30, .inl f2)), (r3, .inr (0, [.ref j3, .int (nI L3.length)])), (j3, .inl (cI, 30, .inl f3)), (r4, .inr (0, [.ref j4, .int (nI L4.length)])), (j4, .inl (cI, 30, .inl f4))]) hD hS hA [0, 1, 2, 3, 4, 5, 6, 7, 8] rfl
    refine va_callv (va_runV (As := [.int (nI 1)]) (rest := []) ⟨hx, hb, hml, hown, hts⟩ (c_X1_makeRoom l G cI sh r1 r2 r3 r4 j1 j2 j3 j4 f1 f2 f3 f4 L1 L2 L3 L4 rc b1 (-1) hR1 hR2 hR3 hR4 hnb ⟨hj1, hj2, hj3, hj4⟩ true H_116.size) (cwV 1 hts gX1_serve_X1_makeRoom rfl rfl rfl (by decide +kernel) ⟨Nat.le_of_ble_eq_true rfl, Nat.le_of_ble_eq_true rfl⟩) (g_preV (As := [.int (nI 1)]) hPc hKc hDc 0 rfl rfl) rfl rfl hl.1 rfl (lv_room (Nat.le_of_ble_eq_true rfl)) dX1_serve_108 ⟨(Nat.le_of_ble_eq_true rfl), (Nat.le_of_ble_eq_true rfl)⟩) hS (fun q _ h => hFc q h) hFc (fun u_133 t H_131 locs ht hvm hw hB hz1 hk1 hS1 => ?_)
    obtain ⟨⟨M_117, M_118, M_119, M_120⟩, x_129⟩ := u_133
    obtain ⟨f_121, f_122, f_123, f_124, hf_125, hf_126, hf_127, hf_128, hB⟩ := hB
    have hf_125 : Rw f_121 M_117 := hf_125
    have hf_126 : Rw f_122 M_118 := hf_126
    have hf_127 : Rw f_123 M_119 := hf_127
    have hf_128 : Rw f_124 M_120 := hf_128
    have hqz_130 : (M_117, M_118, M_119, M_120) = sRoom rc b1 true (L1, L2, L3, L4) := congrArg Prod.fst hw
    have hxz_130 : x_129 = sRoomX rc b1 true (L1, L2, L3, L4) (-1) := congrArg Prod.snd hw
    have az_130 := room_lt (ff := true) hnb
    rw [← hqz_130] at az_130
    have bz_130 := room_sum (ff := true) hnb
    rw [← hqz_130] at bz_130
    dsimp only at az_130 bz_130
    obtain ⟨bz_1301, bz_1302, bz_1303, bz_1304⟩ := bz_130
    obtain ⟨hP1, hD1⟩ := g_join (wc := [(sh, .inr (1, [.ref r1, .ref r2, .ref r3, .ref r4, .int (nI rc), .int (nI b1), .int (-1)])), (r1, .inr (0, [.ref j1, .int (nI L1.length)])), (j1, .inl (cI, 30, .inl f1)), (r2, .inr (0, [.ref j2, .int (nI L2.length)])), (j2, .inl (cI, 30, .inl f2)), (r3, .inr (0, [.ref j3, .int (nI L3.length)])), (j3, .inl (cI, 30, .inl f3)), (r4, .inr (0, [.ref j4, .int (nI L4.length)])), (j4, .inl (cI, 30, .inl f4))]) (wr := []) (w1 := [(sh, .inr (1, [.ref r1, .ref r2, .ref r3, .ref r4, .int (nI rc), .int (nI b1), .int x_129])), (r1, .inr (0, [.ref j1, .int (nI M_117.length)])), (j1, .inl (cI, 30, .inl f_121)), (r2, .inr (0, [.ref j2, .int (nI M_118.length)])), (j2, .inl (cI, 30, .inl f_122)), (r3, .inr (0, [.ref j3, .int (nI M_119.length)])), (j3, .inl (cI, 30, .inl f_123)), (r4, .inr (0, [.ref j4, .int (nI M_120.length)])), (j4, .inl (cI, 30, .inl f_124))]) hP hD [0, 1, 2, 3, 4, 5, 6, 7, 8] [] rfl rfl (by decide) (by decide) ht hk1 hFc hB
    clear hB hk1 hz1 hvm ht hPc hDc hKc hFc
    clear hP hD hS
    have hP : va_P G vwCl [(sh, .inr (1, [.ref r1, .ref r2, .ref r3, .ref r4, .int (nI rc), .int (nI b1), .int x_129])), (r1, .inr (0, [.ref j1, .int (nI M_117.length)])), (j1, .inl (cI, 30, .inl f_121)), (r2, .inr (0, [.ref j2, .int (nI M_118.length)])), (j2, .inl (cI, 30, .inl f_122)), (r3, .inr (0, [.ref j3, .int (nI M_119.length)])), (j3, .inl (cI, 30, .inl f_123)), (r4, .inr (0, [.ref j4, .int (nI M_120.length)])), (j4, .inl (cI, 30, .inl f_124))] H_131 := hP1
    have hD : va_D A [(sh, .inr (1, [.ref r1, .ref r2, .ref r3, .ref r4, .int (nI rc), .int (nI b1), .int x_129])), (r1, .inr (0, [.ref j1, .int (nI M_117.length)])), (j1, .inl (cI, 30, .inl f_121)), (r2, .inr (0, [.ref j2, .int (nI M_118.length)])), (j2, .inl (cI, 30, .inl f_122)), (r3, .inr (0, [.ref j3, .int (nI M_119.length)])), (j3, .inl (cI, 30, .inl f_123)), (r4, .inr (0, [.ref j4, .int (nI M_120.length)])), (j4, .inl (cI, 30, .inl f_124))] := hD1
    have hS := hS1
    clear hP1 hD1 hS1
    refine lv_aload_n hx hb dX1_serve_111 rfl (lv_at hl 0 rfl) ?_
    refine lv_aload_n hx hb dX1_serve_112 rfl (lv_at hl 0 rfl) ?_
    refine lv_iload_n hx hb dX1_serve_113 rfl (lv_at hl 3 rfl) ?_
    have hPc := hP.sub (ws' := [(r4, .inr (0, [.ref j4, .int (nI M_120.length)])), (j4, .inl (cI, 30, .inl f_124))]) [7, 8] rfl
    have hDc := hD.sub (ws' := [(r4, .inr (0, [.ref j4, .int (nI M_120.length)])), (j4, .inl (cI, 30, .inl f_124))]) [7, 8] (by decide) rfl
    have hKc := hK.sub (tys' := [(cI, .int)]) [0] rfl
    have hFc := va_free (wc := [(r4, .inr (0, [.ref j4, .int (nI M_120.length)])), (j4, .inl (cI, 30, .inl f_124))]) hD hS hA [7, 8] rfl
    refine va_calli (va_runV (As := [.int jar]) (rest := [.ref r4]) ⟨hx, hb, hml, hown, hts⟩ (c_X0_placeOf l G cI r4 j4 f_124 M_120 hf_128 (by omega) jar H_131.size) (cwV 1 hts gX1_serve_X0_placeOf rfl rfl rfl (by decide +kernel) ⟨Nat.le_of_ble_eq_true rfl, Nat.le_of_ble_eq_true rfl⟩) (g_preV (As := [.int jar]) hPc hKc hDc 0 rfl rfl) rfl rfl hl.1 rfl (lv_room (Nat.le_of_ble_eq_true rfl)) dX1_serve_114 ⟨(Nat.le_of_ble_eq_true rfl), (Nat.le_of_ble_eq_true rfl)⟩) hS (fun q _ h => hFc q h) hFc (fun r_135 u_136 t H_134 locs ht hvm hw hB hz1 hk1 hS1 => ?_)
    subst hw
    obtain ⟨hP1, hD1⟩ := g_join (wc := [(r4, .inr (0, [.ref j4, .int (nI M_120.length)])), (j4, .inl (cI, 30, .inl f_124))]) (wr := [(sh, .inr (1, [.ref r1, .ref r2, .ref r3, .ref r4, .int (nI rc), .int (nI b1), .int x_129])), (r1, .inr (0, [.ref j1, .int (nI M_117.length)])), (j1, .inl (cI, 30, .inl f_121)), (r2, .inr (0, [.ref j2, .int (nI M_118.length)])), (j2, .inl (cI, 30, .inl f_122)), (r3, .inr (0, [.ref j3, .int (nI M_119.length)])), (j3, .inl (cI, 30, .inl f_123))]) (w1 := [(r4, .inr (0, [.ref j4, .int (nI M_120.length)])), (j4, .inl (cI, 30, .inl f_124))]) hP hD [7, 8] [0, 1, 2, 3, 4, 5, 6] rfl rfl (by decide) (by decide) ht hk1 hFc hB
    clear hB hk1 hz1 hvm ht hPc hDc hKc hFc
    clear hP hD hS
    have hP : va_P G vwCl [(sh, .inr (1, [.ref r1, .ref r2, .ref r3, .ref r4, .int (nI rc), .int (nI b1), .int x_129])), (r1, .inr (0, [.ref j1, .int (nI M_117.length)])), (j1, .inl (cI, 30, .inl f_121)), (r2, .inr (0, [.ref j2, .int (nI M_118.length)])), (j2, .inl (cI, 30, .inl f_122)), (r3, .inr (0, [.ref j3, .int (nI M_119.length)])), (j3, .inl (cI, 30, .inl f_123)), (r4, .inr (0, [.ref j4, .int (nI M_120.length)])), (j4, .inl (cI, 30, .inl f_124))] H_134 := hP1
    have hD : va_D A [(sh, .inr (1, [.ref r1, .ref r2, .ref r3, .ref r4, .int (nI rc), .int (nI b1), .int x_129])), (r1, .inr (0, [.ref j1, .int (nI M_117.length)])), (j1, .inl (cI, 30, .inl f_121)), (r2, .inr (0, [.ref j2, .int (nI M_118.length)])), (j2, .inl (cI, 30, .inl f_122)), (r3, .inr (0, [.ref j3, .int (nI M_119.length)])), (j3, .inl (cI, 30, .inl f_123)), (r4, .inr (0, [.ref j4, .int (nI M_120.length)])), (j4, .inl (cI, 30, .inl f_124))] := hD1
    have hS := hS1
    clear hP1 hD1 hS1
    have mj : jar ∈ M_120 := by
      have z := room_mem4 (ff := true) hnb mj
      rw [← hqz_130] at z
      exact z
    have mi := idx_lt mj
    have ml : (M_120.eraseIdx (M_120.idxOf jar)).length = M_120.length - 1 := List.length_eraseIdx_of_lt mi
    refine g_top (y := nI (M_120.idxOf jar)) (pos_idx mj) ?_
    have hPc := hP.sub (ws' := [(r4, .inr (0, [.ref j4, .int (nI M_120.length)])), (j4, .inl (cI, 30, .inl f_124))]) [7, 8] rfl
    have hDc := hD.sub (ws' := [(r4, .inr (0, [.ref j4, .int (nI M_120.length)])), (j4, .inl (cI, 30, .inl f_124))]) [7, 8] (by decide) rfl
    have hKc := hK.sub (tys' := [(cI, .int)]) [0] rfl
    have hFc := va_free (wc := [(r4, .inr (0, [.ref j4, .int (nI M_120.length)])), (j4, .inl (cI, 30, .inl f_124))]) hD hS hA [7, 8] rfl
    refine va_calli (va_runV (As := [.int (nI (M_120.idxOf jar))]) (rest := []) ⟨hx, hb, hml, hown, hts⟩ (c_X0_takeAt l G cI r4 j4 f_124 M_120 hf_128 (by omega) (M_120.idxOf jar) (by first | omega | (simp only [List.length_cons, List.length_dropLast] at *; omega)) H_134.size) (cwV 1 hts gX1_serve_X0_takeAt rfl rfl rfl (by decide +kernel) ⟨Nat.le_of_ble_eq_true rfl, Nat.le_of_ble_eq_true rfl⟩) (g_preV (As := [.int (nI (M_120.idxOf jar))]) hPc hKc hDc 0 rfl rfl) rfl rfl hl.1 rfl (lv_room (Nat.le_of_ble_eq_true rfl)) dX1_serve_117 ⟨(Nat.le_of_ble_eq_true rfl), (Nat.le_of_ble_eq_true rfl)⟩) hS (fun q _ h => hFc q h) hFc (fun r_140 u_141 t H_139 locs ht hvm hw hB hz1 hk1 hS1 => ?_)
    subst hw
    obtain ⟨f_137, hf_138, hB⟩ := hB
    obtain ⟨hP1, hD1⟩ := g_join (wc := [(r4, .inr (0, [.ref j4, .int (nI M_120.length)])), (j4, .inl (cI, 30, .inl f_124))]) (wr := [(sh, .inr (1, [.ref r1, .ref r2, .ref r3, .ref r4, .int (nI rc), .int (nI b1), .int x_129])), (r1, .inr (0, [.ref j1, .int (nI M_117.length)])), (j1, .inl (cI, 30, .inl f_121)), (r2, .inr (0, [.ref j2, .int (nI M_118.length)])), (j2, .inl (cI, 30, .inl f_122)), (r3, .inr (0, [.ref j3, .int (nI M_119.length)])), (j3, .inl (cI, 30, .inl f_123))]) (w1 := [(r4, .inr (0, [.ref j4, .int (nI ((M_120.eraseIdx (M_120.idxOf jar)).length))])), (j4, .inl (cI, 30, .inl f_137))]) hP hD [7, 8] [0, 1, 2, 3, 4, 5, 6] rfl rfl (by decide) (by decide) ht hk1 hFc hB
    clear hB hk1 hz1 hvm ht hPc hDc hKc hFc
    clear hP hD hS
    have hP : va_P G vwCl [(sh, .inr (1, [.ref r1, .ref r2, .ref r3, .ref r4, .int (nI rc), .int (nI b1), .int x_129])), (r1, .inr (0, [.ref j1, .int (nI M_117.length)])), (j1, .inl (cI, 30, .inl f_121)), (r2, .inr (0, [.ref j2, .int (nI M_118.length)])), (j2, .inl (cI, 30, .inl f_122)), (r3, .inr (0, [.ref j3, .int (nI M_119.length)])), (j3, .inl (cI, 30, .inl f_123)), (r4, .inr (0, [.ref j4, .int (nI ((M_120.eraseIdx (M_120.idxOf jar)).length))])), (j4, .inl (cI, 30, .inl f_137))] H_139 := hP1
    have hD : va_D A [(sh, .inr (1, [.ref r1, .ref r2, .ref r3, .ref r4, .int (nI rc), .int (nI b1), .int x_129])), (r1, .inr (0, [.ref j1, .int (nI M_117.length)])), (j1, .inl (cI, 30, .inl f_121)), (r2, .inr (0, [.ref j2, .int (nI M_118.length)])), (j2, .inl (cI, 30, .inl f_122)), (r3, .inr (0, [.ref j3, .int (nI M_119.length)])), (j3, .inl (cI, 30, .inl f_123)), (r4, .inr (0, [.ref j4, .int (nI ((M_120.eraseIdx (M_120.idxOf jar)).length))])), (j4, .inl (cI, 30, .inl f_137))] := hD1
    have hS := hS1
    clear hP1 hD1 hS1
    refine lv_pop hx hb dX1_serve_120 rfl ?_
    refine lv_aload_n hx hb dX1_serve_121 rfl (lv_at hl 2 rfl) ?_
    refine va_get (D := G) (ci := 1) (v := .ref r2) (C := RX1) (T := TX1) (N := 7) hx hb hts iX1_serve_X1 hown hK hP 0 rfl rfl 1 (by decide) (hts (.fieldLink RX1 20 "GhostPantry$Shelves" "frequent" "LGhostPantry$Row;") (by decide +kernel)) (fun _ h9 => h9) rfl dX1_serve_122 ?_
    refine lv_iload_n hx hb dX1_serve_125 rfl (lv_at hl 3 rfl) ?_
    have hPc := hP.sub (ws' := [(r2, .inr (0, [.ref j2, .int (nI M_118.length)])), (j2, .inl (cI, 30, .inl f_122))]) [3, 4] rfl
    have hDc := hD.sub (ws' := [(r2, .inr (0, [.ref j2, .int (nI M_118.length)])), (j2, .inl (cI, 30, .inl f_122))]) [3, 4] (by decide) rfl
    have hKc := hK.sub (tys' := [(cI, .int)]) [0] rfl
    have hFc := va_free (wc := [(r2, .inr (0, [.ref j2, .int (nI M_118.length)])), (j2, .inl (cI, 30, .inl f_122))]) hD hS hA [3, 4] rfl
    refine va_callv (va_runV (As := [.int jar]) (rest := []) ⟨hx, hb, hml, hown, hts⟩ (c_X0_putFirst l G cI r2 j2 f_122 M_118 hf_126 (by omega) jar (by first | omega | (simp only [List.length_cons, List.length_dropLast] at *; omega)) H_139.size) (cwV 1 hts gX1_serve_X0_putFirst rfl rfl rfl (by decide +kernel) ⟨Nat.le_of_ble_eq_true rfl, Nat.le_of_ble_eq_true rfl⟩) (g_preV (As := [.int jar]) hPc hKc hDc 0 rfl rfl) rfl rfl hl.1 rfl (lv_room (Nat.le_of_ble_eq_true rfl)) dX1_serve_126 ⟨(Nat.le_of_ble_eq_true rfl), (Nat.le_of_ble_eq_true rfl)⟩) hS (fun q _ h => hFc q h) hFc (fun u_146 t H_144 locs ht hvm hw hB hz1 hk1 hS1 => ?_)
    obtain ⟨f_142, hf_143, hB⟩ := hB
    obtain ⟨hP1, hD1⟩ := g_join (wc := [(r2, .inr (0, [.ref j2, .int (nI M_118.length)])), (j2, .inl (cI, 30, .inl f_122))]) (wr := [(sh, .inr (1, [.ref r1, .ref r2, .ref r3, .ref r4, .int (nI rc), .int (nI b1), .int x_129])), (r1, .inr (0, [.ref j1, .int (nI M_117.length)])), (j1, .inl (cI, 30, .inl f_121)), (r3, .inr (0, [.ref j3, .int (nI M_119.length)])), (j3, .inl (cI, 30, .inl f_123)), (r4, .inr (0, [.ref j4, .int (nI ((M_120.eraseIdx (M_120.idxOf jar)).length))])), (j4, .inl (cI, 30, .inl f_137))]) (w1 := [(r2, .inr (0, [.ref j2, .int (nI ((jar :: M_118).length))])), (j2, .inl (cI, 30, .inl f_142))]) hP hD [3, 4] [0, 1, 2, 5, 6, 7, 8] rfl rfl (by decide) (by decide) ht hk1 hFc hB
    clear hB hk1 hz1 hvm ht hPc hDc hKc hFc
    clear hP hD hS
    have hP : va_P G vwCl [(sh, .inr (1, [.ref r1, .ref r2, .ref r3, .ref r4, .int (nI rc), .int (nI b1), .int x_129])), (r1, .inr (0, [.ref j1, .int (nI M_117.length)])), (j1, .inl (cI, 30, .inl f_121)), (r3, .inr (0, [.ref j3, .int (nI M_119.length)])), (j3, .inl (cI, 30, .inl f_123)), (r4, .inr (0, [.ref j4, .int (nI ((M_120.eraseIdx (M_120.idxOf jar)).length))])), (j4, .inl (cI, 30, .inl f_137)), (r2, .inr (0, [.ref j2, .int (nI ((jar :: M_118).length))])), (j2, .inl (cI, 30, .inl f_142))] H_144 := hP1
    have hD : va_D A [(sh, .inr (1, [.ref r1, .ref r2, .ref r3, .ref r4, .int (nI rc), .int (nI b1), .int x_129])), (r1, .inr (0, [.ref j1, .int (nI M_117.length)])), (j1, .inl (cI, 30, .inl f_121)), (r3, .inr (0, [.ref j3, .int (nI M_119.length)])), (j3, .inl (cI, 30, .inl f_123)), (r4, .inr (0, [.ref j4, .int (nI ((M_120.eraseIdx (M_120.idxOf jar)).length))])), (j4, .inl (cI, 30, .inl f_137)), (r2, .inr (0, [.ref j2, .int (nI ((jar :: M_118).length))])), (j2, .inl (cI, 30, .inl f_142))] := hD1
    have hS := hS1
    clear hP1 hD1 hS1
    refine lv_iload_n hx hb dX1_serve_129 rfl (lv_at hl 1 rfl) ?_
    have hP9 := hP.sub (ws' := [(sh, .inr (1, [.ref r1, .ref r2, .ref r3, .ref r4, .int (nI rc), .int (nI b1), .int x_129])), (r1, .inr (0, [.ref j1, .int (nI M_117.length)])), (j1, .inl (cI, 30, .inl f_121)), (r2, .inr (0, [.ref j2, .int (nI ((jar :: M_118).length))])), (j2, .inl (cI, 30, .inl f_142)), (r3, .inr (0, [.ref j3, .int (nI M_119.length)])), (j3, .inl (cI, 30, .inl f_123)), (r4, .inr (0, [.ref j4, .int (nI ((M_120.eraseIdx (M_120.idxOf jar)).length))])), (j4, .inl (cI, 30, .inl f_137))]) [0, 1, 2, 7, 8, 3, 4, 5, 6] rfl
    have hD9 := hD.sub (ws' := [(sh, .inr (1, [.ref r1, .ref r2, .ref r3, .ref r4, .int (nI rc), .int (nI b1), .int x_129])), (r1, .inr (0, [.ref j1, .int (nI M_117.length)])), (j1, .inl (cI, 30, .inl f_121)), (r2, .inr (0, [.ref j2, .int (nI ((jar :: M_118).length))])), (j2, .inl (cI, 30, .inl f_142)), (r3, .inr (0, [.ref j3, .int (nI M_119.length)])), (j3, .inl (cI, 30, .inl f_123)), (r4, .inr (0, [.ref j4, .int (nI ((M_120.eraseIdx (M_120.idxOf jar)).length))])), (j4, .inl (cI, 30, .inl f_137))]) [0, 1, 2, 7, 8, 3, 4, 5, 6] (by decide) rfl
    exact W.iret (v := (nI 4)) hx hb hr (fun t ht hW => ⟨⟨(nI 4), ((M_117, (jar :: M_118), M_119, (M_120.eraseIdx (M_120.idxOf jar))), b1, x_129), rfl, ⟨(by rw [hw0]), (by rw [(serve4 hw0).2.1, (serve4 hw0).2.2, es, ← hqz_130, ← hxz_130]; rfl)⟩, _, _, _, _, hf_125, hf_143, hf_127, hf_138, g_at hP9 hK hD9 ht hW⟩, hS.F ht⟩) hS.2.2 dX1_serve_130
