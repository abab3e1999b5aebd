set_option maxHeartbeats 4000000 in
set_option maxRecDepth 100000 in
theorem c_X1_rowAt_0 (l : Launch) (G : va_G) (cI : ClassId) (sh r1 r2 r3 r4 j1 j2 j3 j4 : Nat) (f1 f2 f3 f4 : Nat → Int32) (L1 L2 L3 L4 : List Int32) (rc bo : Nat) (lv : Int32) (hR1 : Rw f1 L1) (hR2 : Rw f2 L2) (hR3 : Rw f3 L3) (hR4 : Rw f4 L4) (sz : Nat) : Met l yX1_rowAt wsX1_rowAt ({ frames := 0, cells := 0, slots := 0, locals := 0 }) (va_Pc [.ref sh, .int (nI 0)] (gpre G [(cI, .int)] [(sh, .inr (1, [.ref r1, .ref r2, .ref r3, .ref r4, .int (nI rc), .int (nI bo), .int lv])), (r1, .inr (0, [.ref j1, .int (nI L1.length)])), (j1, .inl (cI, 30, .inl f1)), (r2, .inr (0, [.ref j2, .int (nI L2.length)])), (j2, .inl (cI, 30, .inl f2)), (r3, .inr (0, [.ref j3, .int (nI L3.length)])), (j3, .inl (cI, 30, .inl f3)), (r4, .inr (0, [.ref j4, .int (nI L4.length)])), (j4, .inl (cI, 30, .inl f4))] sz)) (va_Qq (fun (z : Option Nat) (_ : Unit) => z = none) (fun (_ : Unit) t => gat G [(cI, .int)] (va_A [(sh, .inr (1, [.ref r1, .ref r2, .ref r3, .ref r4, .int (nI rc), .int (nI bo), .int lv])), (r1, .inr (0, [.ref j1, .int (nI L1.length)])), (j1, .inl (cI, 30, .inl f1)), (r2, .inr (0, [.ref j2, .int (nI L2.length)])), (j2, .inl (cI, 30, .inl f2)), (r3, .inr (0, [.ref j3, .int (nI L3.length)])), (j3, .inl (cI, 30, .inl f3)), (r4, .inr (0, [.ref j4, .int (nI L4.length)])), (j4, .inl (cI, 30, .inl f4))] sz) [(sh, .inr (1, [.ref r1, .ref r2, .ref r3, .ref r4, .int (nI rc), .int (nI bo), .int lv])), (r1, .inr (0, [.ref j1, .int (nI L1.length)])), (j1, .inl (cI, 30, .inl f1)), (r2, .inr (0, [.ref j2, .int (nI L2.length)])), (j2, .inl (cI, 30, .inl f2)), (r3, .inr (0, [.ref j3, .int (nI L3.length)])), (j3, .inl (cI, 30, .inl f3)), (r4, .inr (0, [.ref j4, .int (nI L4.length)])), (j4, .inl (cI, 30, .inl f4))] t) (va_A [(sh, .inr (1, [.ref r1, .ref r2, .ref r3, .ref r4, .int (nI rc), .int (nI bo), .int lv])), (r1, .inr (0, [.ref j1, .int (nI L1.length)])), (j1, .inl (cI, 30, .inl f1)), (r2, .inr (0, [.ref j2, .int (nI L2.length)])), (j2, .inl (cI, 30, .inl f2)), (r3, .inr (0, [.ref j3, .int (nI L3.length)])), (j3, .inl (cI, 30, .inl f3)), (r4, .inr (0, [.ref j4, .int (nI L4.length)])), (j4, .inl (cI, 30, .inl f4))] sz)) 0 0 (va_A [(sh, .inr (1, [.ref r1, .ref r2, .ref r3, .ref r4, .int (nI rc), .int (nI bo), .int lv])), (r1, .inr (0, [.ref j1, .int (nI L1.length)])), (j1, .inl (cI, 30, .inl f1)), (r2, .inr (0, [.ref j2, .int (nI L2.length)])), (j2, .inl (cI, 30, .inl f2)), (r3, .inr (0, [.ref j3, .int (nI L3.length)])), (j3, .inl (cI, 30, .inl f3)), (r4, .inr (0, [.ref j4, .int (nI L4.length)])), (j4, .inl (cI, 30, .inl f4))] sz) := by
  refine Met.ofW (cc := cX1_rowAt) (maxL := 2) (ret := (some (.object "GhostPantry$Row"))) (by decide) rfl ?_
  intro p e s m args below meth c s₁ B hml hv
  obtain ⟨rfl, hsz, hP, hK, hD0⟩ := hv
  have hx := B.exec
  have hb := B.bytes
  have hr := B.returns
  have hts := atoms_spec (ws := wsX1_rowAt) B.pre
  have hown : s.vm.findClass RX1 = some m.cls := findClass_of_methodNamed B.named
  have hlocks := B.notSynchronized
  subst hsz
  have hD := hD0.self (sz := s.heap.size)
  clear hD0
  generalize hAe : va_A [(sh, .inr (1, [.ref r1, .ref r2, .ref r3, .ref r4, .int (nI rc), .int (nI bo), .int lv])), (r1, .inr (0, [.ref j1, .int (nI L1.length)])), (j1, .inl (cI, 30, .inl f1)), (r2, .inr (0, [.ref j2, .int (nI L2.length)])), (j2, .inl (cI, 30, .inl f2)), (r3, .inr (0, [.ref j3, .int (nI L3.length)])), (j3, .inl (cI, 30, .inl f3)), (r4, .inr (0, [.ref j4, .int (nI L4.length)])), (j4, .inl (cI, 30, .inl f4))] s.heap.size = A at hD ⊢
  have hA : ∀ q : Nat, s.heap.size ≤ q → A q := fun q h => by rw [← hAe]; exact Or.inr h
  have hS : va_S A s.heap s.heap [] := va_S.rf
  have hP : va_P G vwCl [(sh, .inr (1, [.ref r1, .ref r2, .ref r3, .ref r4, .int (nI rc), .int (nI bo), .int lv])), (r1, .inr (0, [.ref j1, .int (nI L1.length)])), (j1, .inl (cI, 30, .inl f1)), (r2, .inr (0, [.ref j2, .int (nI L2.length)])), (j2, .inl (cI, 30, .inl f2)), (r3, .inr (0, [.ref j3, .int (nI L3.length)])), (j3, .inl (cI, 30, .inl f3)), (r4, .inr (0, [.ref j4, .int (nI L4.length)])), (j4, .inl (cI, 30, .inl f4))] s.heap := hP
  have hl := lv_entry ([.ref sh, .int (nI 0)]) (n := 2) (Nat.le_of_ble_eq_true rfl)
  rw [lg_entry_eq]
  generalize (lg_sl ([.ref sh, .int (nI 0)]) ++ List.replicate (2 - (lg_sl ([.ref sh, .int (nI 0)])).length) Slot.unset).toArray = ls at hl ⊢
  have hl : lv_has ls 2 [(0, .ref sh), (1, .int (nI 0))] := hl
  refine lv_iload_n hx hb dX1_rowAt_0 rfl (lv_at hl 1 rfl) ?_
  refine lv_tableOut (tgt := 52) hx hb dX1_rowAt_1 (by decide +kernel) (by decide) ?_
  refine lv_null hx hb dX1_rowAt_52 ?_
  have hP9 := hP.sub (ws' := [(sh, .inr (1, [.ref r1, .ref r2, .ref r3, .ref r4, .int (nI rc), .int (nI bo), .int lv])), (r1, .inr (0, [.ref j1, .int (nI L1.length)])), (j1, .inl (cI, 30, .inl f1)), (r2, .inr (0, [.ref j2, .int (nI L2.length)])), (j2, .inl (cI, 30, .inl f2)), (r3, .inr (0, [.ref j3, .int (nI L3.length)])), (j3, .inl (cI, 30, .inl f3)), (r4, .inr (0, [.ref j4, .int (nI L4.length)])), (j4, .inl (cI, 30, .inl f4))]) [0, 1, 2, 3, 4, 5, 6, 7, 8] rfl
  have hD9 := hD.sub (ws' := [(sh, .inr (1, [.ref r1, .ref r2, .ref r3, .ref r4, .int (nI rc), .int (nI bo), .int lv])), (r1, .inr (0, [.ref j1, .int (nI L1.length)])), (j1, .inl (cI, 30, .inl f1)), (r2, .inr (0, [.ref j2, .int (nI L2.length)])), (j2, .inl (cI, 30, .inl f2)), (r3, .inr (0, [.ref j3, .int (nI L3.length)])), (j3, .inl (cI, 30, .inl f3)), (r4, .inr (0, [.ref j4, .int (nI L4.length)])), (j4, .inl (cI, 30, .inl f4))]) [0, 1, 2, 3, 4, 5, 6, 7, 8] (by decide) rfl
  exact W.aret (v := .null) hx hb hr (Or.inl ⟨_, rfl⟩) (Or.inl rfl) (fun t ht hW => ⟨⟨none, (), rfl, rfl, g_at hP9 hK hD9 ht hW⟩, hS.F ht⟩) hS.2.2 dX1_rowAt_53

set_option maxRecDepth 20000 in
theorem iX1_rowAt_X1 : ∀ w ∈ wsX10, w ∈ wsX1_rowAt := by decide +kernel
set_option maxHeartbeats 4000000 in
set_option maxRecDepth 100000 in
theorem c_X1_rowAt_1 (l : Launch) (G : va_G) (cI : ClassId) (sh r1 r2 r3 r4 j1 j2 j3 j4 : Nat) (f1 f2 f3 f4 : Nat → Int32) (L1 L2 L3 L4 : List Int32) (rc bo : Nat) (lv : Int32) (hR1 : Rw f1 L1) (hR2 : Rw f2 L2) (hR3 : Rw f3 L3) (hR4 : Rw f4 L4) (sz : Nat) : Met l yX1_rowAt wsX1_rowAt ({ frames := 0, cells := 0, slots := 0, locals := 0 }) (va_Pc [.ref sh, .int (nI 1)] (gpre G [(cI, .int)] [(sh, .inr (1, [.ref r1, .ref r2, .ref r3, .ref r4, .int (nI rc), .int (nI bo), .int lv])), (r1, .inr (0, [.ref j1, .int (nI L1.length)])), (j1, .inl (cI, 30, .inl f1)), (r2, .inr (0, [.ref j2, .int (nI L2.length)])), (j2, .inl (cI, 30, .inl f2)), (r3, .inr (0, [.ref j3, .int (nI L3.length)])), (j3, .inl (cI, 30, .inl f3)), (r4, .inr (0, [.ref j4, .int (nI L4.length)])), (j4, .inl (cI, 30, .inl f4))] sz)) (va_Qq (fun (z : Option Nat) (_ : Unit) => z = (some r1)) (fun (_ : Unit) t => gat G [(cI, .int)] (va_A [(sh, .inr (1, [.ref r1, .ref r2, .ref r3, .ref r4, .int (nI rc), .int (nI bo), .int lv])), (r1, .inr (0, [.ref j1, .int (nI L1.length)])), (j1, .inl (cI, 30, .inl f1)), (r2, .inr (0, [.ref j2, .int (nI L2.length)])), (j2, .inl (cI, 30, .inl f2)), (r3, .inr (0, [.ref j3, .int (nI L3.length)])), (j3, .inl (cI, 30, .inl f3)), (r4, .inr (0, [.ref j4, .int (nI L4.length)])), (j4, .inl (cI, 30, .inl f4))] sz) [(sh, .inr (1, [.ref r1, .ref r2, .ref r3, .ref r4, .int (nI rc), .int (nI bo), .int lv])), (r1, .inr (0, [.ref j1, .int (nI L1.length)])), (j1, .inl (cI, 30, .inl f1)), (r2, .inr (0, [.ref j2, .int (nI L2.length)])), (j2, .inl (cI, 30, .inl f2)), (r3, .inr (0, [.ref j3, .int (nI L3.length)])), (j3, .inl (cI, 30, .inl f3)), (r4, .inr (0, [.ref j4, .int (nI L4.length)])), (j4, .inl (cI, 30, .inl f4))] t) (va_A [(sh, .inr (1, [.ref r1, .ref r2, .ref r3, .ref r4, .int (nI rc), .int (nI bo), .int lv])), (r1, .inr (0, [.ref j1, .int (nI L1.length)])), (j1, .inl (cI, 30, .inl f1)), (r2, .inr (0, [.ref j2, .int (nI L2.length)])), (j2, .inl (cI, 30, .inl f2)), (r3, .inr (0, [.ref j3, .int (nI L3.length)])), (j3, .inl (cI, 30, .inl f3)), (r4, .inr (0, [.ref j4, .int (nI L4.length)])), (j4, .inl (cI, 30, .inl f4))] sz)) 0 0 (va_A [(sh, .inr (1, [.ref r1, .ref r2, .ref r3, .ref r4, .int (nI rc), .int (nI bo), .int lv])), (r1, .inr (0, [.ref j1, .int (nI L1.length)])), (j1, .inl (cI, 30, .inl f1)), (r2, .inr (0, [.ref j2, .int (nI L2.length)])), (j2, .inl (cI, 30, .inl f2)), (r3, .inr (0, [.ref j3, .int (nI L3.length)])), (j3, .inl (cI, 30, .inl f3)), (r4, .inr (0, [.ref j4, .int (nI L4.length)])), (j4, .inl (cI, 30, .inl f4))] sz) := by
  refine Met.ofW (cc := cX1_rowAt) (maxL := 2) (ret := (some (.object "GhostPantry$Row"))) (by decide) rfl ?_
  intro p e s m args below meth c s₁ B hml hv
  obtain ⟨rfl, hsz, hP, hK, hD0⟩ := hv
  have hx := B.exec
  have hb := B.bytes
  have hr := B.returns
  have hts := atoms_spec (ws := wsX1_rowAt) B.pre
  have hown : s.vm.findClass RX1 = some m.cls := findClass_of_methodNamed B.named
  have hlocks := B.notSynchronized
  subst hsz
  have hD := hD0.self (sz := s.heap.size)
  clear hD0
  generalize hAe : va_A [(sh, .inr (1, [.ref r1, .ref r2, .ref r3, .ref r4, .int (nI rc), .int (nI bo), .int lv])), (r1, .inr (0, [.ref j1, .int (nI L1.length)])), (j1, .inl (cI, 30, .inl f1)), (r2, .inr (0, [.ref j2, .int (nI L2.length)])), (j2, .inl (cI, 30, .inl f2)), (r3, .inr (0, [.ref j3, .int (nI L3.length)])), (j3, .inl (cI, 30, .inl f3)), (r4, .inr (0, [.ref j4, .int (nI L4.length)])), (j4, .inl (cI, 30, .inl f4))] s.heap.size = A at hD ⊢
  have hA : ∀ q : Nat, s.heap.size ≤ q → A q := fun q h => by rw [← hAe]; exact Or.inr h
  have hS : va_S A s.heap s.heap [] := va_S.rf
  have hP : va_P G vwCl [(sh, .inr (1, [.ref r1, .ref r2, .ref r3, .ref r4, .int (nI rc), .int (nI bo), .int lv])), (r1, .inr (0, [.ref j1, .int (nI L1.length)])), (j1, .inl (cI, 30, .inl f1)), (r2, .inr (0, [.ref j2, .int (nI L2.length)])), (j2, .inl (cI, 30, .inl f2)), (r3, .inr (0, [.ref j3, .int (nI L3.length)])), (j3, .inl (cI, 30, .inl f3)), (r4, .inr (0, [.ref j4, .int (nI L4.length)])), (j4, .inl (cI, 30, .inl f4))] s.heap := hP
  have hl := lv_entry ([.ref sh, .int (nI 1)]) (n := 2) (Nat.le_of_ble_eq_true rfl)
  rw [lg_entry_eq]
  generalize (lg_sl ([.ref sh, .int (nI 1)]) ++ List.replicate (2 - (lg_sl ([.ref sh, .int (nI 1)])).length) Slot.unset).toArray = ls at hl ⊢
  have hl : lv_has ls 2 [(0, .ref sh), (1, .int (nI 1))] := hl
  refine lv_iload_n hx hb dX1_rowAt_0 rfl (lv_at hl 1 rfl) ?_
  refine lv_tableIn (off := 31) (tgt := 32) hx hb dX1_rowAt_1 (by decide +kernel) (by decide +kernel) (by decide +kernel) (by decide) ?_
  refine lv_aload_n hx hb dX1_rowAt_32 rfl (lv_at hl 0 rfl) ?_
  refine va_get (D := G) (ci := 1) (v := .ref r1) (C := RX1) (T := TX1) (N := 7) hx hb hts iX1_rowAt_X1 hown hK hP 0 rfl rfl 0 (by decide) (hts (.fieldLink RX1 14 "GhostPantry$Shelves" "recent" "LGhostPantry$Row;") (by decide +kernel)) (fun _ h9 => h9) rfl dX1_rowAt_33 ?_
  have hP9 := hP.sub (ws' := [(sh, .inr (1, [.ref r1, .ref r2, .ref r3, .ref r4, .int (nI rc), .int (nI bo), .int lv])), (r1, .inr (0, [.ref j1, .int (nI L1.length)])), (j1, .inl (cI, 30, .inl f1)), (r2, .inr (0, [.ref j2, .int (nI L2.length)])), (j2, .inl (cI, 30, .inl f2)), (r3, .inr (0, [.ref j3, .int (nI L3.length)])), (j3, .inl (cI, 30, .inl f3)), (r4, .inr (0, [.ref j4, .int (nI L4.length)])), (j4, .inl (cI, 30, .inl f4))]) [0, 1, 2, 3, 4, 5, 6, 7, 8] rfl
  have hD9 := hD.sub (ws' := [(sh, .inr (1, [.ref r1, .ref r2, .ref r3, .ref r4, .int (nI rc), .int (nI bo), .int lv])), (r1, .inr (0, [.ref j1, .int (nI L1.length)])), (j1, .inl (cI, 30, .inl f1)), (r2, .inr (0, [.ref j2, .int (nI L2.length)])), (j2, .inl (cI, 30, .inl f2)), (r3, .inr (0, [.ref j3, .int (nI L3.length)])), (j3, .inl (cI, 30, .inl f3)), (r4, .inr (0, [.ref j4, .int (nI L4.length)])), (j4, .inl (cI, 30, .inl f4))]) [0, 1, 2, 3, 4, 5, 6, 7, 8] (by decide) rfl
  exact W.aret (v := .ref r1) hx hb hr (Or.inl ⟨_, rfl⟩) (Or.inr ⟨_, rfl⟩) (fun t ht hW => ⟨⟨(some r1), (), rfl, rfl, g_at hP9 hK hD9 ht hW⟩, hS.F ht⟩) hS.2.2 dX1_rowAt_36

set_option maxHeartbeats 4000000 in
set_option maxRecDepth 100000 in
theorem c_X1_rowAt_2 (l : Launch) (G : va_G) (cI : ClassId) (sh r1 r2 r3 r4 j1 j2 j3 j4 : Nat) (f1 f2 f3 f4 : Nat → Int32) (L1 L2 L3 L4 : List Int32) (rc bo : Nat) (lv : Int32) (hR1 : Rw f1 L1) (hR2 : Rw f2 L2) (hR3 : Rw f3 L3) (hR4 : Rw f4 L4) (sz : Nat) : Met l yX1_rowAt wsX1_rowAt ({ frames := 0, cells := 0, slots := 0, locals := 0 }) (va_Pc [.ref sh, .int (nI 2)] (gpre G [(cI, .int)] [(sh, .inr (1, [.ref r1, .ref r2, .ref r3, .ref r4, .int (nI rc), .int (nI bo), .int lv])), (r1, .inr (0, [.ref j1, .int (nI L1.length)])), (j1, .inl (cI, 30, .inl f1)), (r2, .inr (0, [.ref j2, .int (nI L2.length)])), (j2, .inl (cI, 30, .inl f2)), (r3, .inr (0, [.ref j3, .int (nI L3.length)])), (j3, .inl (cI, 30, .inl f3)), (r4, .inr (0, [.ref j4, .int (nI L4.length)])), (j4, .inl (cI, 30, .inl f4))] sz)) (va_Qq (fun (z : Option Nat) (_ : Unit) => z = (some r2)) (fun (_ : Unit) t => gat G [(cI, .int)] (va_A [(sh, .inr (1, [.ref r1, .ref r2, .ref r3, .ref r4, .int (nI rc), .int (nI bo), .int lv])), (r1, .inr (0, [.ref j1, .int (nI L1.length)])), (j1, .inl (cI, 30, .inl f1)), (r2, .inr (0, [.ref j2, .int (nI L2.length)])), (j2, .inl (cI, 30, .inl f2)), (r3, .inr (0, [.ref j3, .int (nI L3.length)])), (j3, .inl (cI, 30, .inl f3)), (r4, .inr (0, [.ref j4, .int (nI L4.length)])), (j4, .inl (cI, 30, .inl f4))] sz) [(sh, .inr (1, [.ref r1, .ref r2, .ref r3, .ref r4, .int (nI rc), .int (nI bo), .int lv])), (r1, .inr (0, [.ref j1, .int (nI L1.length)])), (j1, .inl (cI, 30, .inl f1)), (r2, .inr (0, [.ref j2, .int (nI L2.length)])), (j2, .inl (cI, 30, .inl f2)), (r3, .inr (0, [.ref j3, .int (nI L3.length)])), (j3, .inl (cI, 30, .inl f3)), (r4, .inr (0, [.ref j4, .int (nI L4.length)])), (j4, .inl (cI, 30, .inl f4))] t) (va_A [(sh, .inr (1, [.ref r1, .ref r2, .ref r3, .ref r4, .int (nI rc), .int (nI bo), .int lv])), (r1, .inr (0, [.ref j1, .int (nI L1.length)])), (j1, .inl (cI, 30, .inl f1)), (r2, .inr (0, [.ref j2, .int (nI L2.length)])), (j2, .inl (cI, 30, .inl f2)), (r3, .inr (0, [.ref j3, .int (nI L3.length)])), (j3, .inl (cI, 30, .inl f3)), (r4, .inr (0, [.ref j4, .int (nI L4.length)])), (j4, .inl (cI, 30, .inl f4))] sz)) 0 0 (va_A [(sh, .inr (1, [.ref r1, .ref r2, .ref r3, .ref r4, .int (nI rc), .int (nI bo), .int lv])), (r1, .inr (0, [.ref j1, .int (nI L1.length)])), (j1, .inl (cI, 30, .inl f1)), (r2, .inr (0, [.ref j2, .int (nI L2.length)])), (j2, .inl (cI, 30, .inl f2)), (r3, .inr (0, [.ref j3, .int (nI L3.length)])), (j3, .inl (cI, 30, .inl f3)), (r4, .inr (0, [.ref j4, .int (nI L4.length)])), (j4, .inl (cI, 30, .inl f4))] sz) := by
  refine Met.ofW (cc := cX1_rowAt) (maxL := 2) (ret := (some (.object "GhostPantry$Row"))) (by decide) rfl ?_
  intro p e s m args below meth c s₁ B hml hv
  obtain ⟨rfl, hsz, hP, hK, hD0⟩ := hv
  have hx := B.exec
  have hb := B.bytes
  have hr := B.returns
  have hts := atoms_spec (ws := wsX1_rowAt) B.pre
  have hown : s.vm.findClass RX1 = some m.cls := findClass_of_methodNamed B.named
  have hlocks := B.notSynchronized
  subst hsz
  have hD := hD0.self (sz := s.heap.size)
  clear hD0
  generalize hAe : va_A [(sh, .inr (1, [.ref r1, .ref r2, .ref r3, .ref r4, .int (nI rc), .int (nI bo), .int lv])), (r1, .inr (0, [.ref j1, .int (nI L1.length)])), (j1, .inl (cI, 30, .inl f1)), (r2, .inr (0, [.ref j2, .int (nI L2.length)])), (j2, .inl (cI, 30, .inl f2)), (r3, .inr (0, [.ref j3, .int (nI L3.length)])), (j3, .inl (cI, 30, .inl f3)), (r4, .inr (0, [.ref j4, .int (nI L4.length)])), (j4, .inl (cI, 30, .inl f4))] s.heap.size = A at hD ⊢
  have hA : ∀ q : Nat, s.heap.size ≤ q → A q := fun q h => by rw [← hAe]; exact Or.inr h
  have hS : va_S A s.heap s.heap [] := va_S.rf
  have hP : va_P G vwCl [(sh, .inr (1, [.ref r1, .ref r2, .ref r3, .ref r4, .int (nI rc), .int (nI bo), .int lv])), (r1, .inr (0, [.ref j1, .int (nI L1.length)])), (j1, .inl (cI, 30, .inl f1)), (r2, .inr (0, [.ref j2, .int (nI L2.length)])), (j2, .inl (cI, 30, .inl f2)), (r3, .inr (0, [.ref j3, .int (nI L3.length)])), (j3, .inl (cI, 30, .inl f3)), (r4, .inr (0, [.ref j4, .int (nI L4.length)])), (j4, .inl (cI, 30, .inl f4))] s.heap := hP
  have hl := lv_entry ([.ref sh, .int (nI 2)]) (n := 2) (Nat.le_of_ble_eq_true rfl)
  rw [lg_entry_eq]
  generalize (lg_sl ([.ref sh, .int (nI 2)]) ++ List.replicate (2 - (lg_sl ([.ref sh, .int (nI 2)])).length) Slot.unset).toArray = ls at hl ⊢
  have hl : lv_has ls 2 [(0, .ref sh), (1, .int (nI 2))] := hl
  refine lv_iload_n hx hb dX1_rowAt_0 rfl (lv_at hl 1 rfl) ?_
  refine lv_tableIn (off := 36) (tgt := 37) hx hb dX1_rowAt_1 (by decide +kernel) (by decide +kernel) (by decide +kernel) (by decide) ?_
  refine lv_aload_n hx hb dX1_rowAt_37 rfl (lv_at hl 0 rfl) ?_
  refine va_get (D := G) (ci := 1) (v := .ref r2) (C := RX1) (T := TX1) (N := 7) hx hb hts iX1_rowAt_X1 hown hK hP 0 rfl rfl 1 (by decide) (hts (.fieldLink RX1 20 "GhostPantry$Shelves" "frequent" "LGhostPantry$Row;") (by decide +kernel)) (fun _ h9 => h9) rfl dX1_rowAt_38 ?_
  have hP9 := hP.sub (ws' := [(sh, .inr (1, [.ref r1, .ref r2, .ref r3, .ref r4, .int (nI rc), .int (nI bo), .int lv])), (r1, .inr (0, [.ref j1, .int (nI L1.length)])), (j1, .inl (cI, 30, .inl f1)), (r2, .inr (0, [.ref j2, .int (nI L2.length)])), (j2, .inl (cI, 30, .inl f2)), (r3, .inr (0, [.ref j3, .int (nI L3.length)])), (j3, .inl (cI, 30, .inl f3)), (r4, .inr (0, [.ref j4, .int (nI L4.length)])), (j4, .inl (cI, 30, .inl f4))]) [0, 1, 2, 3, 4, 5, 6, 7, 8] rfl
  have hD9 := hD.sub (ws' := [(sh, .inr (1, [.ref r1, .ref r2, .ref r3, .ref r4, .int (nI rc), .int (nI bo), .int lv])), (r1, .inr (0, [.ref j1, .int (nI L1.length)])), (j1, .inl (cI, 30, .inl f1)), (r2, .inr (0, [.ref j2, .int (nI L2.length)])), (j2, .inl (cI, 30, .inl f2)), (r3, .inr (0, [.ref j3, .int (nI L3.length)])), (j3, .inl (cI, 30, .inl f3)), (r4, .inr (0, [.ref j4, .int (nI L4.length)])), (j4, .inl (cI, 30, .inl f4))]) [0, 1, 2, 3, 4, 5, 6, 7, 8] (by decide) rfl
  exact W.aret (v := .ref r2) hx hb hr (Or.inl ⟨_, rfl⟩) (Or.inr ⟨_, rfl⟩) (fun t ht hW => ⟨⟨(some r2), (), rfl, rfl, g_at hP9 hK hD9 ht hW⟩, hS.F ht⟩) hS.2.2 dX1_rowAt_41

set_option maxHeartbeats 4000000 in
set_option maxRecDepth 100000 in
theorem c_X1_rowAt_3 (l : Launch) (G : va_G) (cI : ClassId) (sh r1 r2 r3 r4 j1 j2 j3 j4 : Nat) (f1 f2 f3 f4 : Nat → Int32) (L1 L2 L3 L4 : List Int32) (rc bo : Nat) (lv : Int32) (hR1 : Rw f1 L1) (hR2 : Rw f2 L2) (hR3 : Rw f3 L3) (hR4 : Rw f4 L4) (sz : Nat) : Met l yX1_rowAt wsX1_rowAt ({ frames := 0, cells := 0, slots := 0, locals := 0 }) (va_Pc [.ref sh, .int (nI 3)] (gpre G [(cI, .int)] [(sh, .inr (1, [.ref r1, .ref r2, .ref r3, .ref r4, .int (nI rc), .int (nI bo), .int lv])), (r1, .inr (0, [.ref j1, .int (nI L1.length)])), (j1, .inl (cI, 30, .inl f1)), (r2, .inr (0, [.ref j2, .int (nI L2.length)])), (j2, .inl (cI, 30, .inl f2)), (r3, .inr (0, [.ref j3, .int (nI L3.length)])), (j3, .inl (cI, 30, .inl f3)), (r4, .inr (0, [.ref j4, .int (nI L4.length)])), (j4, .inl (cI, 30, .inl f4))] sz)) (va_Qq (fun (z : Option Nat) (_ : Unit) => z = (some r3)) (fun (_ : Unit) t => gat G [(cI, .int)] (va_A [(sh, .inr (1, [.ref r1, .ref r2, .ref r3, .ref r4, .int (nI rc), .int (nI bo), .int lv])), (r1, .inr (0, [.ref j1, .int (nI L1.length)])), (j1, .inl (cI, 30, .inl f1)), (r2, .inr (0, [.ref j2, .int (nI L2.length)])), (j2, .inl (cI, 30, .inl f2)), (r3, .inr (0, [.ref j3, .int (nI L3.length)])), (j3, .inl (cI, 30, .inl f3)), (r4, .inr (0, [.ref j4, .int (nI L4.length)])), (j4, .inl (cI, 30, .inl f4))] sz) [(sh, .inr (1, [.ref r1, .ref r2, .ref r3, .ref r4, .int (nI rc), .int (nI bo), .int lv])), (r1, .inr (0, [.ref j1, .int (nI L1.length)])), (j1, .inl (cI, 30, .inl f1)), (r2, .inr (0, [.ref j2, .int (nI L2.length)])), (j2, .inl (cI, 30, .inl f2)), (r3, .inr (0, [.ref j3, .int (nI L3.length)])), (j3, .inl (cI, 30, .inl f3)), (r4, .inr (0, [.ref j4, .int (nI L4.length)])), (j4, .inl (cI, 30, .inl f4))] t) (va_A [(sh, .inr (1, [.ref r1, .ref r2, .ref r3, .ref r4, .int (nI rc), .int (nI bo), .int lv])), (r1, .inr (0, [.ref j1, .int (nI L1.length)])), (j1, .inl (cI, 30, .inl f1)), (r2, .inr (0, [.ref j2, .int (nI L2.length)])), (j2, .inl (cI, 30, .inl f2)), (r3, .inr (0, [.ref j3, .int (nI L3.length)])), (j3, .inl (cI, 30, .inl f3)), (r4, .inr (0, [.ref j4, .int (nI L4.length)])), (j4, .inl (cI, 30, .inl f4))] sz)) 0 0 (va_A [(sh, .inr (1, [.ref r1, .ref r2, .ref r3, .ref r4, .int (nI rc), .int (nI bo), .int lv])), (r1, .inr (0, [.ref j1, .int (nI L1.length)])), (j1, .inl (cI, 30, .inl f1)), (r2, .inr (0, [.ref j2, .int (nI L2.length)])), (j2, .inl (cI, 30, .inl f2)), (r3, .inr (0, [.ref j3, .int (nI L3.length)])), (j3, .inl (cI, 30, .inl f3)), (r4, .inr (0, [.ref j4, .int (nI L4.length)])), (j4, .inl (cI, 30, .inl f4))] sz) := by
  refine Met.ofW (cc := cX1_rowAt) (maxL := 2) (ret := (some (.object "GhostPantry$Row"))) (by decide) rfl ?_
  intro p e s m args below meth c s₁ B hml hv
  obtain ⟨rfl, hsz, hP, hK, hD0⟩ := hv
  have hx := B.exec
  have hb := B.bytes
  have hr := B.returns
  have hts := atoms_spec (ws := wsX1_rowAt) B.pre
  have hown : s.vm.findClass RX1 = some m.cls := findClass_of_methodNamed B.named
  have hlocks := B.notSynchronized
  subst hsz
  have hD := hD0.self (sz := s.heap.size)
  clear hD0
  generalize hAe : va_A [(sh, .inr (1, [.ref r1, .ref r2, .ref r3, .ref r4, .int (nI rc), .int (nI bo), .int lv])), (r1, .inr (0, [.ref j1, .int (nI L1.length)])), (j1, .inl (cI, 30, .inl f1)), (r2, .inr (0, [.ref j2, .int (nI L2.length)])), (j2, .inl (cI, 30, .inl f2)), (r3, .inr (0, [.ref j3, .int (nI L3.length)])), (j3, .inl (cI, 30, .inl f3)), (r4, .inr (0, [.ref j4, .int (nI L4.length)])), (j4, .inl (cI, 30, .inl f4))] s.heap.size = A at hD ⊢
  have hA : ∀ q : Nat, s.heap.size ≤ q → A q := fun q h => by rw [← hAe]; exact Or.inr h
  have hS : va_S A s.heap s.heap [] := va_S.rf
  have hP : va_P G vwCl [(sh, .inr (1, [.ref r1, .ref r2, .ref r3, .ref r4, .int (nI rc), .int (nI bo), .int lv])), (r1, .inr (0, [.ref j1, .int (nI L1.length)])), (j1, .inl (cI, 30, .inl f1)), (r2, .inr (0, [.ref j2, .int (nI L2.length)])), (j2, .inl (cI, 30, .inl f2)), (r3, .inr (0, [.ref j3, .int (nI L3.length)])), (j3, .inl (cI, 30, .inl f3)), (r4, .inr (0, [.ref j4, .int (nI L4.length)])), (j4, .inl (cI, 30, .inl f4))] s.heap := hP
  have hl := lv_entry ([.ref sh, .int (nI 3)]) (n := 2) (Nat.le_of_ble_eq_true rfl)
  rw [lg_entry_eq]
  generalize (lg_sl ([.ref sh, .int (nI 3)]) ++ List.replicate (2 - (lg_sl ([.ref sh, .int (nI 3)])).length) Slot.unset).toArray = ls at hl ⊢
  have hl : lv_has ls 2 [(0, .ref sh), (1, .int (nI 3))] := hl
  refine lv_iload_n hx hb dX1_rowAt_0 rfl (lv_at hl 1 rfl) ?_
  refine lv_tableIn (off := 41) (tgt := 42) hx hb dX1_rowAt_1 (by decide +kernel) (by decide +kernel) (by decide +kernel) (by decide) ?_
  refine lv_aload_n hx hb dX1_rowAt_42 rfl (lv_at hl 0 rfl) ?_
  refine va_get (D := G) (ci := 1) (v := .ref r3) (C := RX1) (T := TX1) (N := 7) hx hb hts iX1_rowAt_X1 hown hK hP 0 rfl rfl 2 (by decide) (hts (.fieldLink RX1 23 "GhostPantry$Shelves" "recentGhosts" "LGhostPantry$Row;") (by decide +kernel)) (fun _ h9 => h9) rfl dX1_rowAt_43 ?_
  have hP9 := hP.sub (ws' := [(sh, .inr (1, [.ref r1, .ref r2, .ref r3, .ref r4, .int (nI rc), .int (nI bo), .int lv])), (r1, .inr (0, [.ref j1, .int (nI L1.length)])), (j1, .inl (cI, 30, .inl f1)), (r2, .inr (0, [.ref j2, .int (nI L2.length)])), (j2, .inl (cI, 30, .inl f2)), (r3, .inr (0, [.ref j3, .int (nI L3.length)])), (j3, .inl (cI, 30, .inl f3)), (r4, .inr (0, [.ref j4, .int (nI L4.length)])), (j4, .inl (cI, 30, .inl f4))]) [0, 1, 2, 3, 4, 5, 6, 7, 8] rfl
  have hD9 := hD.sub (ws' := [(sh, .inr (1, [.ref r1, .ref r2, .ref r3, .ref r4, .int (nI rc), .int (nI bo), .int lv])), (r1, .inr (0, [.ref j1, .int (nI L1.length)])), (j1, .inl (cI, 30, .inl f1)), (r2, .inr (0, [.ref j2, .int (nI L2.length)])), (j2, .inl (cI, 30, .inl f2)), (r3, .inr (0, [.ref j3, .int (nI L3.length)])), (j3, .inl (cI, 30, .inl f3)), (r4, .inr (0, [.ref j4, .int (nI L4.length)])), (j4, .inl (cI, 30, .inl f4))]) [0, 1, 2, 3, 4, 5, 6, 7, 8] (by decide) rfl
  exact W.aret (v := .ref r3) hx hb hr (Or.inl ⟨_, rfl⟩) (Or.inr ⟨_, rfl⟩) (fun t ht hW => ⟨⟨(some r3), (), rfl, rfl, g_at hP9 hK hD9 ht hW⟩, hS.F ht⟩) hS.2.2 dX1_rowAt_46

set_option maxHeartbeats 4000000 in
set_option maxRecDepth 100000 in
theorem c_X1_rowAt_4 (l : Launch) (G : va_G) (cI : ClassId) (sh r1 r2 r3 r4 j1 j2 j3 j4 : Nat) (f1 f2 f3 f4 : Nat → Int32) (L1 L2 L3 L4 : List Int32) (rc bo : Nat) (lv : Int32) (hR1 : Rw f1 L1) (hR2 : Rw f2 L2) (hR3 : Rw f3 L3) (hR4 : Rw f4 L4) (sz : Nat) : Met l yX1_rowAt wsX1_rowAt ({ frames := 0, cells := 0, slots := 0, locals := 0 }) (va_Pc [.ref sh, .int (nI 4)] (gpre G [(cI, .int)] [(sh, .inr (1, [.ref r1, .ref r2, .ref r3, .ref r4, .int (nI rc), .int (nI bo), .int lv])), (r1, .inr (0, [.ref j1, .int (nI L1.length)])), (j1, .inl (cI, 30, .inl f1)), (r2, .inr (0, [.ref j2, .int (nI L2.length)])), (j2, .inl (cI, 30, .inl f2)), (r3, .inr (0, [.ref j3, .int (nI L3.length)])), (j3, .inl (cI, 30, .inl f3)), (r4, .inr (0, [.ref j4, .int (nI L4.length)])), (j4, .inl (cI, 30, .inl f4))] sz)) (va_Qq (fun (z : Option Nat) (_ : Unit) => z = (some r4)) (fun (_ : Unit) t => gat G [(cI, .int)] (va_A [(sh, .inr (1, [.ref r1, .ref r2, .ref r3, .ref r4, .int (nI rc), .int (nI bo), .int lv])), (r1, .inr (0, [.ref j1, .int (nI L1.length)])), (j1, .inl (cI, 30, .inl f1)), (r2, .inr (0, [.ref j2, .int (nI L2.length)])), (j2, .inl (cI, 30, .inl f2)), (r3, .inr (0, [.ref j3, .int (nI L3.length)])), (j3, .inl (cI, 30, .inl f3)), (r4, .inr (0, [.ref j4, .int (nI L4.length)])), (j4, .inl (cI, 30, .inl f4))] sz) [(sh, .inr (1, [.ref r1, .ref r2, .ref r3, .ref r4, .int (nI rc), .int (nI bo), .int lv])), (r1, .inr (0, [.ref j1, .int (nI L1.length)])), (j1, .inl (cI, 30, .inl f1)), (r2, .inr (0, [.ref j2, .int (nI L2.length)])), (j2, .inl (cI, 30, .inl f2)), (r3, .inr (0, [.ref j3, .int (nI L3.length)])), (j3, .inl (cI, 30, .inl f3)), (r4, .inr (0, [.ref j4, .int (nI L4.length)])), (j4, .inl (cI, 30, .inl f4))] t) (va_A [(sh, .inr (1, [.ref r1, .ref r2, .ref r3, .ref r4, .int (nI rc), .int (nI bo), .int lv])), (r1, .inr (0, [.ref j1, .int (nI L1.length)])), (j1, .inl (cI, 30, .inl f1)), (r2, .inr (0, [.ref j2, .int (nI L2.length)])), (j2, .inl (cI, 30, .inl f2)), (r3, .inr (0, [.ref j3, .int (nI L3.length)])), (j3, .inl (cI, 30, .inl f3)), (r4, .inr (0, [.ref j4, .int (nI L4.length)])), (j4, .inl (cI, 30, .inl f4))] sz)) 0 0 (va_A [(sh, .inr (1, [.ref r1, .ref r2, .ref r3, .ref r4, .int (nI rc), .int (nI bo), .int lv])), (r1, .inr (0, [.ref j1, .int (nI L1.length)])), (j1, .inl (cI, 30, .inl f1)), (r2, .inr (0, [.ref j2, .int (nI L2.length)])), (j2, .inl (cI, 30, .inl f2)), (r3, .inr (0, [.ref j3, .int (nI L3.length)])), (j3, .inl (cI, 30, .inl f3)), (r4, .inr (0, [.ref j4, .int (nI L4.length)])), (j4, .inl (cI, 30, .inl f4))] sz) := by
  refine Met.ofW (cc := cX1_rowAt) (maxL := 2) (ret := (some (.object "GhostPantry$Row"))) (by decide) rfl ?_
  intro p e s m args below meth c s₁ B hml hv
  obtain ⟨rfl, hsz, hP, hK, hD0⟩ := hv
  have hx := B.exec
  have hb := B.bytes
  have hr := B.returns
  have hts := atoms_spec (ws := wsX1_rowAt) B.pre
  have hown : s.vm.findClass RX1 = some m.cls := findClass_of_methodNamed B.named
  have hlocks := B.notSynchronized
  subst hsz
  have hD := hD0.self (sz := s.heap.size)
  clear hD0
  generalize hAe : va_A [(sh, .inr (1, [.ref r1, .ref r2, .ref r3, .ref r4, .int (nI rc), .int (nI bo), .int lv])), (r1, .inr (0, [.ref j1, .int (nI L1.length)])), (j1, .inl (cI, 30, .inl f1)), (r2, .inr (0, [.ref j2, .int (nI L2.length)])), (j2, .inl (cI, 30, .inl f2)), (r3, .inr (0, [.ref j3, .int (nI L3.length)])), (j3, .inl (cI, 30, .inl f3)), (r4, .inr (0, [.ref j4, .int (nI L4.length)])), (j4, .inl (cI, 30, .inl f4))] s.heap.size = A at hD ⊢
  have hA : ∀ q : Nat, s.heap.size ≤ q → A q := fun q h => by rw [← hAe]; exact Or.inr h
  have hS : va_S A s.heap s.heap [] := va_S.rf
  have hP : va_P G vwCl [(sh, .inr (1, [.ref r1, .ref r2, .ref r3, .ref r4, .int (nI rc), .int (nI bo), .int lv])), (r1, .inr (0, [.ref j1, .int (nI L1.length)])), (j1, .inl (cI, 30, .inl f1)), (r2, .inr (0, [.ref j2, .int (nI L2.length)])), (j2, .inl (cI, 30, .inl f2)), (r3, .inr (0, [.ref j3, .int (nI L3.length)])), (j3, .inl (cI, 30, .inl f3)), (r4, .inr (0, [.ref j4, .int (nI L4.length)])), (j4, .inl (cI, 30, .inl f4))] s.heap := hP
  have hl := lv_entry ([.ref sh, .int (nI 4)]) (n := 2) (Nat.le_of_ble_eq_true rfl)
  rw [lg_entry_eq]
  generalize (lg_sl ([.ref sh, .int (nI 4)]) ++ List.replicate (2 - (lg_sl ([.ref sh, .int (nI 4)])).length) Slot.unset).toArray = ls at hl ⊢
  have hl : lv_has ls 2 [(0, .ref sh), (1, .int (nI 4))] := hl
  refine lv_iload_n hx hb dX1_rowAt_0 rfl (lv_at hl 1 rfl) ?_
  refine lv_tableIn (off := 46) (tgt := 47) hx hb dX1_rowAt_1 (by decide +kernel) (by decide +kernel) (by decide +kernel) (by decide) ?_
  refine lv_aload_n hx hb dX1_rowAt_47 rfl (lv_at hl 0 rfl) ?_
  refine va_get (D := G) (ci := 1) (v := .ref r4) (C := RX1) (T := TX1) (N := 7) hx hb hts iX1_rowAt_X1 hown hK hP 0 rfl rfl 3 (by decide) (hts (.fieldLink RX1 26 "GhostPantry$Shelves" "frequentGhosts" "LGhostPantry$Row;") (by decide +kernel)) (fun _ h9 => h9) rfl dX1_rowAt_48 ?_
  have hP9 := hP.sub (ws' := [(sh, .inr (1, [.ref r1, .ref r2, .ref r3, .ref r4, .int (nI rc), .int (nI bo), .int lv])), (r1, .inr (0, [.ref j1, .int (nI L1.length)])), (j1, .inl (cI, 30, .inl f1)), (r2, .inr (0, [.ref j2, .int (nI L2.length)])), (j2, .inl (cI, 30, .inl f2)), (r3, .inr (0, [.ref j3, .int (nI L3.length)])), (j3, .inl (cI, 30, .inl f3)), (r4, .inr (0, [.ref j4, .int (nI L4.length)])), (j4, .inl (cI, 30, .inl f4))]) [0, 1, 2, 3, 4, 5, 6, 7, 8] rfl
  have hD9 := hD.sub (ws' := [(sh, .inr (1, [.ref r1, .ref r2, .ref r3, .ref r4, .int (nI rc), .int (nI bo), .int lv])), (r1, .inr (0, [.ref j1, .int (nI L1.length)])), (j1, .inl (cI, 30, .inl f1)), (r2, .inr (0, [.ref j2, .int (nI L2.length)])), (j2, .inl (cI, 30, .inl f2)), (r3, .inr (0, [.ref j3, .int (nI L3.length)])), (j3, .inl (cI, 30, .inl f3)), (r4, .inr (0, [.ref j4, .int (nI L4.length)])), (j4, .inl (cI, 30, .inl f4))]) [0, 1, 2, 3, 4, 5, 6, 7, 8] (by decide) rfl
  exact W.aret (v := .ref r4) hx hb hr (Or.inl ⟨_, rfl⟩) (Or.inr ⟨_, rfl⟩) (fun t ht hW => ⟨⟨(some r4), (), rfl, rfl, g_at hP9 hK hD9 ht hW⟩, hS.F ht⟩) hS.2.2 dX1_rowAt_51

set_option maxHeartbeats 4000000 in
set_option maxRecDepth 100000 in
theorem c_X1_whereIs (l : Launch) (G : va_G) (cI : ClassId) (sh r1 r2 r3 r4 j1 j2 j3 j4 : Nat) (f1 f2 f3 f4 : Nat → Int32) (L1 L2 L3 L4 : List Int32) (rc bo : Nat) (lv : Int32) (hR1 : Rw f1 L1) (hR2 : Rw f2 L2) (hR3 : Rw f3 L3) (hR4 : Rw f4 L4) (hn : Num rc bo (L1, L2, L3, L4)) (jar : Int32) (sz : Nat) : Met l yX1_whereIs wsX1_whereIs ({ frames := 1, cells := 0, slots := 0, locals := 22 }) (va_Pc [.ref sh, .int jar] (gpre G [(cI, .int)] [(sh, .inr (1, [.ref r1, .ref r2, .ref r3, .ref r4, .int (nI rc), .int (nI bo), .int lv])), (r1, .inr (0, [.ref j1, .int (nI L1.length)])), (j1, .inl (cI, 30, .inl f1)), (r2, .inr (0, [.ref j2, .int (nI L2.length)])), (j2, .inl (cI, 30, .inl f2)), (r3, .inr (0, [.ref j3, .int (nI L3.length)])), (j3, .inl (cI, 30, .inl f3)), (r4, .inr (0, [.ref j4, .int (nI L4.length)])), (j4, .inl (cI, 30, .inl f4))] sz)) (va_Qi (fun (z : Int32) (_ : Unit) => z = nI (whr (L1, L2, L3, L4) jar)) (fun (_ : Unit) t => gat G [(cI, .int)] (va_A [(sh, .inr (1, [.ref r1, .ref r2, .ref r3, .ref r4, .int (nI rc), .int (nI bo), .int lv])), (r1, .inr (0, [.ref j1, .int (nI L1.length)])), (j1, .inl (cI, 30, .inl f1)), (r2, .inr (0, [.ref j2, .int (nI L2.length)])), (j2, .inl (cI, 30, .inl f2)), (r3, .inr (0, [.ref j3, .int (nI L3.length)])), (j3, .inl (cI, 30, .inl f3)), (r4, .inr (0, [.ref j4, .int (nI L4.length)])), (j4, .inl (cI, 30, .inl f4))] sz) [(sh, .inr (1, [.ref r1, .ref r2, .ref r3, .ref r4, .int (nI rc), .int (nI bo), .int lv])), (r1, .inr (0, [.ref j1, .int (nI L1.length)])), (j1, .inl (cI, 30, .inl f1)), (r2, .inr (0, [.ref j2, .int (nI L2.length)])), (j2, .inl (cI, 30, .inl f2)), (r3, .inr (0, [.ref j3, .int (nI L3.length)])), (j3, .inl (cI, 30, .inl f3)), (r4, .inr (0, [.ref j4, .int (nI L4.length)])), (j4, .inl (cI, 30, .inl f4))] t) (va_A [(sh, .inr (1, [.ref r1, .ref r2, .ref r3, .ref r4, .int (nI rc), .int (nI bo), .int lv])), (r1, .inr (0, [.ref j1, .int (nI L1.length)])), (j1, .inl (cI, 30, .inl f1)), (r2, .inr (0, [.ref j2, .int (nI L2.length)])), (j2, .inl (cI, 30, .inl f2)), (r3, .inr (0, [.ref j3, .int (nI L3.length)])), (j3, .inl (cI, 30, .inl f3)), (r4, .inr (0, [.ref j4, .int (nI L4.length)])), (j4, .inl (cI, 30, .inl f4))] sz)) 0 0 (va_A [(sh, .inr (1, [.ref r1, .ref r2, .ref r3, .ref r4, .int (nI rc), .int (nI bo), .int lv])), (r1, .inr (0, [.ref j1, .int (nI L1.length)])), (j1, .inl (cI, 30, .inl f1)), (r2, .inr (0, [.ref j2, .int (nI L2.length)])), (j2, .inl (cI, 30, .inl f2)), (r3, .inr (0, [.ref j3, .int (nI L3.length)])), (j3, .inl (cI, 30, .inl f3)), (r4, .inr (0, [.ref j4, .int (nI L4.length)])), (j4, .inl (cI, 30, .inl f4))] sz) := by
  refine Met.ofW (cc := cX1_whereIs) (maxL := 4) (ret := (some .int)) (by decide) rfl ?_
  intro p e s m args below meth c s₁ B hml hv
  obtain ⟨rfl, hsz, hP, hK, hD0⟩ := hv
  have hx := B.exec
  have hb := B.bytes
  have hr := B.returns
  have hts := atoms_spec (ws := wsX1_whereIs) B.pre
  have hown : s.vm.findClass RX1 = some m.cls := findClass_of_methodNamed B.named
  have hlocks := B.notSynchronized
  subst hsz
  have hD := hD0.self (sz := s.heap.size)
  clear hD0
  generalize hAe : va_A [(sh, .inr (1, [.ref r1, .ref r2, .ref r3, .ref r4, .int (nI rc), .int (nI bo), .int lv])), (r1, .inr (0, [.ref j1, .int (nI L1.length)])), (j1, .inl (cI, 30, .inl f1)), (r2, .inr (0, [.ref j2, .int (nI L2.length)])), (j2, .inl (cI, 30, .inl f2)), (r3, .inr (0, [.ref j3, .int (nI L3.length)])), (j3, .inl (cI, 30, .inl f3)), (r4, .inr (0, [.ref j4, .int (nI L4.length)])), (j4, .inl (cI, 30, .inl f4))] s.heap.size = A at hD ⊢
  have hA : ∀ q : Nat, s.heap.size ≤ q → A q := fun q h => by rw [← hAe]; exact Or.inr h
  have hS : va_S A s.heap s.heap [] := va_S.rf
  have hP : va_P G vwCl [(sh, .inr (1, [.ref r1, .ref r2, .ref r3, .ref r4, .int (nI rc), .int (nI bo), .int lv])), (r1, .inr (0, [.ref j1, .int (nI L1.length)])), (j1, .inl (cI, 30, .inl f1)), (r2, .inr (0, [.ref j2, .int (nI L2.length)])), (j2, .inl (cI, 30, .inl f2)), (r3, .inr (0, [.ref j3, .int (nI L3.length)])), (j3, .inl (cI, 30, .inl f3)), (r4, .inr (0, [.ref j4, .int (nI L4.length)])), (j4, .inl (cI, 30, .inl f4))] s.heap := hP
  have hl := lv_entry ([.ref sh, .int jar]) (n := 4) (Nat.le_of_ble_eq_true rfl)
  rw [lg_entry_eq]
  generalize (lg_sl ([.ref sh, .int jar]) ++ List.replicate (4 - (lg_sl ([.ref sh, .int jar])).length) Slot.unset).toArray = ls at hl ⊢
  have hl : lv_has ls 4 [(0, .ref sh), (1, .int jar)] := hl
  obtain ⟨hn1, hn2, hn3, hn4, hn5, hn6⟩ : 1 ≤ rc ∧ rc ≤ 12 ∧ bo ≤ rc ∧ L1.length + L2.length ≤ rc ∧ L1.length + L3.length ≤ rc ∧ L1.length + L2.length + L3.length + L4.length ≤ 2 * rc := hn
  refine lv_iconst (v := (nI 1)) hx hb dX1_whereIs_0 (by decide +kernel) ?_
  refine lv_istore_n (lv' := [(2, .int (nI 1)), (0, .ref sh), (1, .int jar)]) hx hb dX1_whereIs_1 rfl hl (by decide) rfl (fun ls hl => ?_)
  refine lv_iload_n hx hb dX1_whereIs_2 rfl (lv_at hl 0 rfl) ?_
  refine lv_iconst (v := (nI 4)) hx hb dX1_whereIs_3 (by decide +kernel) ?_
  refine g_icmp_gt (tgt := 34) hx hb dX1_whereIs_4 (by decide) (by decide) (by decide) (fun c1 => False.elim (by omega)) (fun c1 => ?_)
  refine lv_aload_n hx hb dX1_whereIs_7 rfl (lv_at hl 1 rfl) ?_
  refine lv_iload_n hx hb dX1_whereIs_8 rfl (lv_at hl 0 rfl) ?_
  have hPc := hP.sub (ws' := [(sh, .inr (1, [.ref r1, .ref r2, .ref r3, .ref r4, .int (nI rc), .int (nI bo), .int lv])), (r1, .inr (0, [.ref j1, .int (nI L1.length)])), (j1, .inl (cI, 30, .inl f1)), (r2, .inr (0, [.ref j2, .int (nI L2.length)])), (j2, .inl (cI, 30, .inl f2)), (r3, .inr (0, [.ref j3, .int (nI L3.length)])), (j3, .inl (cI, 30, .inl f3)), (r4, .inr (0, [.ref j4, .int (nI L4.length)])), (j4, .inl (cI, 30, .inl f4))]) [0, 1, 2, 3, 4, 5, 6, 7, 8] rfl
  have hDc := hD.sub (ws' := [(sh, .inr (1, [.ref r1, .ref r2, .ref r3, .ref r4, .int (nI rc), .int (nI bo), .int lv])), (r1, .inr (0, [.ref j1, .int (nI L1.length)])), (j1, .inl (cI, 30, .inl f1)), (r2, .inr (0, [.ref j2, .int (nI L2.length)])), (j2, .inl (cI, 30, .inl f2)), (r3, .inr (0, [.ref j3, .int (nI L3.length)])), (j3, .inl (cI, 30, .inl f3)), (r4, .inr (0, [.ref j4, .int (nI L4.length)])), (j4, .inl (cI, 30, .inl f4))]) [0, 1, 2, 3, 4, 5, 6, 7, 8] (by decide) rfl
  have hKc := hK.sub (tys' := [(cI, .int)]) [0] rfl
  have hFc := va_free (wc := [(sh, .inr (1, [.ref r1, .ref r2, .ref r3, .ref r4, .int (nI rc), .int (nI bo), .int lv])), (r1, .inr (0, [.ref j1, .int (nI L1.length)])), (j1, .inl (cI, 30, .inl f1)), (r2, .inr (0, [.ref j2, .int (nI L2.length)])), (j2, .inl (cI, 30, .inl f2)), (r3, .inr (0, [.ref j3, .int (nI L3.length)])), (j3, .inl (cI, 30, .inl f3)), (r4, .inr (0, [.ref j4, .int (nI L4.length)])), (j4, .inl (cI, 30, .inl f4))]) hD hS hA [0, 1, 2, 3, 4, 5, 6, 7, 8] rfl
  refine va_callq (va_runV (As := [.int (nI 1)]) (rest := []) ⟨hx, hb, hml, hown, hts⟩ (c_X1_rowAt_1 l G cI sh r1 r2 r3 r4 j1 j2 j3 j4 f1 f2 f3 f4 L1 L2 L3 L4 rc bo lv hR1 hR2 hR3 hR4  s.heap.size) (cwV 1 hts gX1_whereIs_X1_rowAt rfl rfl rfl (by decide +kernel) ⟨Nat.le_of_ble_eq_true rfl, Nat.le_of_ble_eq_true rfl⟩) (g_preV (As := [.int (nI 1)]) hPc hKc hDc 0 rfl rfl) rfl rfl hl.1 rfl (lv_room (Nat.le_of_ble_eq_true rfl)) dX1_whereIs_9 ⟨(Nat.le_of_ble_eq_true rfl), (Nat.le_of_ble_eq_true rfl)⟩) hS (fun q _ h => hFc q h) hFc (fun r3 u4 t H2 locs ht hvm hw hB hz1 hk1 hS1 => ?_)
  subst hw
  obtain ⟨hP1, hD1⟩ := g_join (wc := [(sh, .inr (1, [.ref r1, .ref r2, .ref r3, .ref r4, .int (nI rc), .int (nI bo), .int lv])), (r1, .inr (0, [.ref j1, .int (nI L1.length)])), (j1, .inl (cI, 30, .inl f1)), (r2, .inr (0, [.ref j2, .int (nI L2.length)])), (j2, .inl (cI, 30, .inl f2)), (r3, .inr (0, [.ref j3, .int (nI L3.length)])), (j3, .inl (cI, 30, .inl f3)), (r4, .inr (0, [.ref j4, .int (nI L4.length)])), (j4, .inl (cI, 30, .inl f4))]) (wr := []) (w1 := [(sh, .inr (1, [.ref r1, .ref r2, .ref r3, .ref r4, .int (nI rc), .int (nI bo), .int lv])), (r1, .inr (0, [.ref j1, .int (nI L1.length)])), (j1, .inl (cI, 30, .inl f1)), (r2, .inr (0, [.ref j2, .int (nI L2.length)])), (j2, .inl (cI, 30, .inl f2)), (r3, .inr (0, [.ref j3, .int (nI L3.length)])), (j3, .inl (cI, 30, .inl f3)), (r4, .inr (0, [.ref j4, .int (nI L4.length)])), (j4, .inl (cI, 30, .inl f4))]) hP hD [0, 1, 2, 3, 4, 5, 6, 7, 8] [] rfl rfl (by decide) (by decide) ht hk1 hFc hB
  clear hB hk1 hz1 hvm ht hPc hDc hKc hFc
  clear hP hD hS
  have hP : va_P G vwCl [(sh, .inr (1, [.ref r1, .ref r2, .ref r3, .ref r4, .int (nI rc), .int (nI bo), .int lv])), (r1, .inr (0, [.ref j1, .int (nI L1.length)])), (j1, .inl (cI, 30, .inl f1)), (r2, .inr (0, [.ref j2, .int (nI L2.length)])), (j2, .inl (cI, 30, .inl f2)), (r3, .inr (0, [.ref j3, .int (nI L3.length)])), (j3, .inl (cI, 30, .inl f3)), (r4, .inr (0, [.ref j4, .int (nI L4.length)])), (j4, .inl (cI, 30, .inl f4))] H2 := hP1
  have hD : va_D A [(sh, .inr (1, [.ref r1, .ref r2, .ref r3, .ref r4, .int (nI rc), .int (nI bo), .int lv])), (r1, .inr (0, [.ref j1, .int (nI L1.length)])), (j1, .inl (cI, 30, .inl f1)), (r2, .inr (0, [.ref j2, .int (nI L2.length)])), (j2, .inl (cI, 30, .inl f2)), (r3, .inr (0, [.ref j3, .int (nI L3.length)])), (j3, .inl (cI, 30, .inl f3)), (r4, .inr (0, [.ref j4, .int (nI L4.length)])), (j4, .inl (cI, 30, .inl f4))] := hD1
  have hS := hS1
  clear hP1 hD1 hS1
  refine W.eq (g2 := F0 m 12 ls [.ref r1]) rfl ?_
  refine lv_astore_n (lv' := [(3, .ref r1), (2, .int (nI 1)), (0, .ref sh), (1, .int jar)]) hx hb dX1_whereIs_12 rfl hl (by decide) rfl (fun ls hl => ?_)
  refine lv_aload_n hx hb dX1_whereIs_13 rfl (lv_at hl 0 rfl) ?_
  refine lv_ifnull hx hb dX1_whereIs_14 ?_
  refine lv_aload_n hx hb dX1_whereIs_17 rfl (lv_at hl 0 rfl) ?_
  refine lv_iload_n hx hb dX1_whereIs_18 rfl (lv_at hl 3 rfl) ?_
  have hPc := hP.sub (ws' := [(r1, .inr (0, [.ref j1, .int (nI L1.length)])), (j1, .inl (cI, 30, .inl f1))]) [1, 2] rfl
  have hDc := hD.sub (ws' := [(r1, .inr (0, [.ref j1, .int (nI L1.length)])), (j1, .inl (cI, 30, .inl f1))]) [1, 2] (by decide) rfl
  have hKc := hK.sub (tys' := [(cI, .int)]) [0] rfl
  have hFc := va_free (wc := [(r1, .inr (0, [.ref j1, .int (nI L1.length)])), (j1, .inl (cI, 30, .inl f1))]) hD hS hA [1, 2] rfl
  refine va_calli (va_runV (As := [.int jar]) (rest := []) ⟨hx, hb, hml, hown, hts⟩ (c_X0_placeOf l G cI r1 j1 f1 L1 hR1 (by omega) jar H2.size) (cwV 1 hts gX1_whereIs_X0_placeOf rfl rfl rfl (by decide +kernel) ⟨Nat.le_of_ble_eq_true rfl, Nat.le_of_ble_eq_true rfl⟩) (g_preV (As := [.int jar]) hPc hKc hDc 0 rfl rfl) rfl rfl hl.1 rfl (lv_room (Nat.le_of_ble_eq_true rfl)) dX1_whereIs_19 ⟨(Nat.le_of_ble_eq_true rfl), (Nat.le_of_ble_eq_true rfl)⟩) hS (fun q _ h => hFc q h) hFc (fun r6 u7 t H5 locs ht hvm hw hB hz1 hk1 hS1 => ?_)
  subst hw
  obtain ⟨hP1, hD1⟩ := g_join (wc := [(r1, .inr (0, [.ref j1, .int (nI L1.length)])), (j1, .inl (cI, 30, .inl f1))]) (wr := [(sh, .inr (1, [.ref r1, .ref r2, .ref r3, .ref r4, .int (nI rc), .int (nI bo), .int lv])), (r2, .inr (0, [.ref j2, .int (nI L2.length)])), (j2, .inl (cI, 30, .inl f2)), (r3, .inr (0, [.ref j3, .int (nI L3.length)])), (j3, .inl (cI, 30, .inl f3)), (r4, .inr (0, [.ref j4, .int (nI L4.length)])), (j4, .inl (cI, 30, .inl f4))]) (w1 := [(r1, .inr (0, [.ref j1, .int (nI L1.length)])), (j1, .inl (cI, 30, .inl f1))]) hP hD [1, 2] [0, 3, 4, 5, 6, 7, 8] rfl rfl (by decide) (by decide) ht hk1 hFc hB
  clear hB hk1 hz1 hvm ht hPc hDc hKc hFc
  clear hP hD hS
  have hP : va_P G vwCl [(sh, .inr (1, [.ref r1, .ref r2, .ref r3, .ref r4, .int (nI rc), .int (nI bo), .int lv])), (r2, .inr (0, [.ref j2, .int (nI L2.length)])), (j2, .inl (cI, 30, .inl f2)), (r3, .inr (0, [.ref j3, .int (nI L3.length)])), (j3, .inl (cI, 30, .inl f3)), (r4, .inr (0, [.ref j4, .int (nI L4.length)])), (j4, .inl (cI, 30, .inl f4)), (r1, .inr (0, [.ref j1, .int (nI L1.length)])), (j1, .inl (cI, 30, .inl f1))] H5 := hP1
  have hD : va_D A [(sh, .inr (1, [.ref r1, .ref r2, .ref r3, .ref r4, .int (nI rc), .int (nI bo), .int lv])), (r2, .inr (0, [.ref j2, .int (nI L2.length)])), (j2, .inl (cI, 30, .inl f2)), (r3, .inr (0, [.ref j3, .int (nI L3.length)])), (j3, .inl (cI, 30, .inl f3)), (r4, .inr (0, [.ref j4, .int (nI L4.length)])), (j4, .inl (cI, 30, .inl f4)), (r1, .inr (0, [.ref j1, .int (nI L1.length)])), (j1, .inl (cI, 30, .inl f1))] := hD1
  have hS := hS1
  clear hP1 hD1 hS1
  refine lv_iconst (v := (-1)) hx hb dX1_whereIs_22 (by decide +kernel) ?_
  refine lv_icmp_eq (tgt := 28) hx hb dX1_whereIs_23 (by decide) (fun c8 => ?_) (fun c8 => ?_)
  · have m1 : jar ∉ L1 := pos_out (by omega) c8
    refine lv_iinc (v := (nI 2)) (lv' := [(2, .int (nI 2)), (3, .ref r1), (0, .ref sh), (1, .int jar)]) hx hb dX1_whereIs_28 hl (k := 1) rfl (by decide +kernel) (by decide) rfl (fun ls hl => ?_)
    refine lv_goto (tgt := 2) hx hb dX1_whereIs_31 (by decide) ?_
    refine lv_iload_n hx hb dX1_whereIs_2 rfl (lv_at hl 0 rfl) ?_
    refine lv_iconst (v := (nI 4)) hx hb dX1_whereIs_3 (by decide +kernel) ?_
    refine g_icmp_gt (tgt := 34) hx hb dX1_whereIs_4 (by decide) (by decide) (by decide) (fun c9 => False.elim (by omega)) (fun c9 => ?_)
    refine lv_aload_n hx hb dX1_whereIs_7 rfl (lv_at hl 2 rfl) ?_
    refine lv_iload_n hx hb dX1_whereIs_8 rfl (lv_at hl 0 rfl) ?_
    have hPc := hP.sub (ws' := [(sh, .inr (1, [.ref r1, .ref r2, .ref r3, .ref r4, .int (nI rc), .int (nI bo), .int lv])), (r1, .inr (0, [.ref j1, .int (nI L1.length)])), (j1, .inl (cI, 30, .inl f1)), (r2, .inr (0, [.ref j2, .int (nI L2.length)])), (j2, .inl (cI, 30, .inl f2)), (r3, .inr (0, [.ref j3, .int (nI L3.length)])), (j3, .inl (cI, 30, .inl f3)), (r4, .inr (0, [.ref j4, .int (nI L4.length)])), (j4, .inl (cI, 30, .inl f4))]) [0, 7, 8, 1, 2, 3, 4, 5, 6] rfl
    have hDc := hD.sub (ws' := [(sh, .inr (1, [.ref r1, .ref r2, .ref r3, .ref r4, .int (nI rc), .int (nI bo), .int lv])), (r1, .inr (0, [.ref j1, .int (nI L1.length)])), (j1, .inl (cI, 30, .inl f1)), (r2, .inr (0, [.ref j2, .int (nI L2.length)])), (j2, .inl (cI, 30, .inl f2)), (r3, .inr (0, [.ref j3, .int (nI L3.length)])), (j3, .inl (cI, 30, .inl f3)), (r4, .inr (0, [.ref j4, .int (nI L4.length)])), (j4, .inl (cI, 30, .inl f4))]) [0, 7, 8, 1, 2, 3, 4, 5, 6] (by decide) rfl
    have hKc := hK.sub (tys' := [(cI, .int)]) [0] rfl
    have hFc := va_free (wc := [(sh, .inr (1, [.ref r1, .ref r2, .ref r3, .ref r4, .int (nI rc), .int (nI bo), .int lv])), (r1, .inr (0, [.ref j1, .int (nI L1.length)])), (j1, .inl (cI, 30, .inl f1)), (r2, .inr (0, [.ref j2, .int (nI L2.length)])), (j2, .inl (cI, 30, .inl f2)), (r3, .inr (0, [.ref j3, .int (nI L3.length)])), (j3, .inl (cI, 30, .inl f3)), (r4, .inr (0, [.ref j4, .int (nI L4.length)])), (j4, .inl (cI, 30, .inl f4))]) hD hS hA [0, 7, 8, 1, 2, 3, 4, 5, 6] rfl
    refine va_callq (va_runV (As := [.int (nI 2)]) (rest := []) ⟨hx, hb, hml, hown, hts⟩ (c_X1_rowAt_2 l G cI sh r1 r2 r3 r4 j1 j2 j3 j4 f1 f2 f3 f4 L1 L2 L3 L4 rc bo lv hR1 hR2 hR3 hR4  H5.size) (cwV 1 hts gX1_whereIs_X1_rowAt rfl rfl rfl (by decide +kernel) ⟨Nat.le_of_ble_eq_true rfl, Nat.le_of_ble_eq_true rfl⟩) (g_preV (As := [.int (nI 2)]) hPc hKc hDc 0 rfl rfl) rfl rfl hl.1 rfl (lv_room (Nat.le_of_ble_eq_true rfl)) dX1_whereIs_9 ⟨(Nat.le_of_ble_eq_true rfl), (Nat.le_of_ble_eq_true rfl)⟩) hS (fun q _ h => hFc q h) hFc (fun r11 u12 t H10 locs ht hvm hw hB hz1 hk1 hS1 => ?_)
    subst hw
    obtain ⟨hP1, hD1⟩ := g_join (wc := [(sh, .inr (1, [.ref r1, .ref r2, .ref r3, .ref r4, .int (nI rc), .int (nI bo), .int lv])), (r1, .inr (0, [.ref j1, .int (nI L1.length)])), (j1, .inl (cI, 30, .inl f1)), (r2, .inr (0, [.ref j2, .int (nI L2.length)])), (j2, .inl (cI, 30, .inl f2)), (r3, .inr (0, [.ref j3, .int (nI L3.length)])), (j3, .inl (cI, 30, .inl f3)), (r4, .inr (0, [.ref j4, .int (nI L4.length)])), (j4, .inl (cI, 30, .inl f4))]) (wr := []) (w1 := [(sh, .inr (1, [.ref r1, .ref r2, .ref r3, .ref r4, .int (nI rc), .int (nI bo), .int lv])), (r1, .inr (0, [.ref j1, .int (nI L1.length)])), (j1, .inl (cI, 30, .inl f1)), (r2, .inr (0, [.ref j2, .int (nI L2.length)])), (j2, .inl (cI, 30, .inl f2)), (r3, .inr (0, [.ref j3, .int (nI L3.length)])), (j3, .inl (cI, 30, .inl f3)), (r4, .inr (0, [.ref j4, .int (nI L4.length)])), (j4, .inl (cI, 30, .inl f4))]) hP hD [0, 7, 8, 1, 2, 3, 4, 5, 6] [] rfl rfl (by decide) (by decide) ht hk1 hFc hB
    clear hB hk1 hz1 hvm ht hPc hDc hKc hFc
    clear hP hD hS
    have hP : va_P G vwCl [(sh, .inr (1, [.ref r1, .ref r2, .ref r3, .ref r4, .int (nI rc), .int (nI bo), .int lv])), (r1, .inr (0, [.ref j1, .int (nI L1.length)])), (j1, .inl (cI, 30, .inl f1)), (r2, .inr (0, [.ref j2, .int (nI L2.length)])), (j2, .inl (cI, 30, .inl f2)), (r3, .inr (0, [.ref j3, .int (nI L3.length)])), (j3, .inl (cI, 30, .inl f3)), (r4, .inr (0, [.ref j4, .int (nI L4.length)])), (j4, .inl (cI, 30, .inl f4))] H10 := hP1
    have hD : va_D A [(sh, .inr (1, [.ref r1, .ref r2, .ref r3, .ref r4, .int (nI rc), .int (nI bo), .int lv])), (r1, .inr (0, [.ref j1, .int (nI L1.length)])), (j1, .inl (cI, 30, .inl f1)), (r2, .inr (0, [.ref j2, .int (nI L2.length)])), (j2, .inl (cI, 30, .inl f2)), (r3, .inr (0, [.ref j3, .int (nI L3.length)])), (j3, .inl (cI, 30, .inl f3)), (r4, .inr (0, [.ref j4, .int (nI L4.length)])), (j4, .inl (cI, 30, .inl f4))] := hD1
    have hS := hS1
    clear hP1 hD1 hS1
    refine W.eq (g2 := F0 m 12 ls [.ref r2]) rfl ?_
    refine lv_astore_n (lv' := [(3, .ref r2), (2, .int (nI 2)), (0, .ref sh), (1, .int jar)]) hx hb dX1_whereIs_12 rfl hl (by decide) rfl (fun ls hl => ?_)
    refine lv_aload_n hx hb dX1_whereIs_13 rfl (lv_at hl 0 rfl) ?_
    refine lv_ifnull hx hb dX1_whereIs_14 ?_
    refine lv_aload_n hx hb dX1_whereIs_17 rfl (lv_at hl 0 rfl) ?_
    refine lv_iload_n hx hb dX1_whereIs_18 rfl (lv_at hl 3 rfl) ?_
    have hPc := hP.sub (ws' := [(r2, .inr (0, [.ref j2, .int (nI L2.length)])), (j2, .inl (cI, 30, .inl f2))]) [3, 4] rfl
    have hDc := hD.sub (ws' := [(r2, .inr (0, [.ref j2, .int (nI L2.length)])), (j2, .inl (cI, 30, .inl f2))]) [3, 4] (by decide) rfl
    have hKc := hK.sub (tys' := [(cI, .int)]) [0] rfl
    have hFc := va_free (wc := [(r2, .inr (0, [.ref j2, .int (nI L2.length)])), (j2, .inl (cI, 30, .inl f2))]) hD hS hA [3, 4] rfl
    refine va_calli (va_runV (As := [.int jar]) (rest := []) ⟨hx, hb, hml, hown, hts⟩ (c_X0_placeOf l G cI r2 j2 f2 L2 hR2 (by omega) jar H10.size) (cwV 1 hts gX1_whereIs_X0_placeOf rfl rfl rfl (by decide +kernel) ⟨Nat.le_of_ble_eq_true rfl, Nat.le_of_ble_eq_true rfl⟩) (g_preV (As := [.int jar]) hPc hKc hDc 0 rfl rfl) rfl rfl hl.1 rfl (lv_room (Nat.le_of_ble_eq_true rfl)) dX1_whereIs_19 ⟨(Nat.le_of_ble_eq_true rfl), (Nat.le_of_ble_eq_true rfl)⟩) hS (fun q _ h => hFc q h) hFc (fun r14 u15 t H13 locs ht hvm hw hB hz1 hk1 hS1 => ?_)
    subst hw
    obtain ⟨hP1, hD1⟩ := g_join (wc := [(r2, .inr (0, [.ref j2, .int (nI L2.length)])), (j2, .inl (cI, 30, .inl f2))]) (wr := [(sh, .inr (1, [.ref r1, .ref r2, .ref r3, .ref r4, .int (nI rc), .int (nI bo), .int lv])), (r1, .inr (0, [.ref j1, .int (nI L1.length)])), (j1, .inl (cI, 30, .inl f1)), (r3, .inr (0, [.ref j3, .int (nI L3.length)])), (j3, .inl (cI, 30, .inl f3)), (r4, .inr (0, [.ref j4, .int (nI L4.length)])), (j4, .inl (cI, 30, .inl f4))]) (w1 := [(r2, .inr (0, [.ref j2, .int (nI L2.length)])), (j2, .inl (cI, 30, .inl f2))]) hP hD [3, 4] [0, 1, 2, 5, 6, 7, 8] rfl rfl (by decide) (by decide) ht hk1 hFc hB
    clear hB hk1 hz1 hvm ht hPc hDc hKc hFc
    clear hP hD hS
    have hP : va_P G vwCl [(sh, .inr (1, [.ref r1, .ref r2, .ref r3, .ref r4, .int (nI rc), .int (nI bo), .int lv])), (r1, .inr (0, [.ref j1, .int (nI L1.length)])), (j1, .inl (cI, 30, .inl f1)), (r3, .inr (0, [.ref j3, .int (nI L3.length)])), (j3, .inl (cI, 30, .inl f3)), (r4, .inr (0, [.ref j4, .int (nI L4.length)])), (j4, .inl (cI, 30, .inl f4)), (r2, .inr (0, [.ref j2, .int (nI L2.length)])), (j2, .inl (cI, 30, .inl f2))] H13 := hP1
    have hD : va_D A [(sh, .inr (1, [.ref r1, .ref r2, .ref r3, .ref r4, .int (nI rc), .int (nI bo), .int lv])), (r1, .inr (0, [.ref j1, .int (nI L1.length)])), (j1, .inl (cI, 30, .inl f1)), (r3, .inr (0, [.ref j3, .int (nI L3.length)])), (j3, .inl (cI, 30, .inl f3)), (r4, .inr (0, [.ref j4, .int (nI L4.length)])), (j4, .inl (cI, 30, .inl f4)), (r2, .inr (0, [.ref j2, .int (nI L2.length)])), (j2, .inl (cI, 30, .inl f2))] := hD1
    have hS := hS1
    clear hP1 hD1 hS1
    refine lv_iconst (v := (-1)) hx hb dX1_whereIs_22 (by decide +kernel) ?_
    refine lv_icmp_eq (tgt := 28) hx hb dX1_whereIs_23 (by decide) (fun c16 => ?_) (fun c16 => ?_)
    · have m2 : jar ∉ L2 := pos_out (by omega) c16
      refine lv_iinc (v := (nI 3)) (lv' := [(2, .int (nI 3)), (3, .ref r2), (0, .ref sh), (1, .int jar)]) hx hb dX1_whereIs_28 hl (k := 1) rfl (by decide +kernel) (by decide) rfl (fun ls hl => ?_)
      refine lv_goto (tgt := 2) hx hb dX1_whereIs_31 (by decide) ?_
      refine lv_iload_n hx hb dX1_whereIs_2 rfl (lv_at hl 0 rfl) ?_
      refine lv_iconst (v := (nI 4)) hx hb dX1_whereIs_3 (by decide +kernel) ?_
      refine g_icmp_gt (tgt := 34) hx hb dX1_whereIs_4 (by decide) (by decide) (by decide) (fun c17 => False.elim (by omega)) (fun c17 => ?_)
      refine lv_aload_n hx hb dX1_whereIs_7 rfl (lv_at hl 2 rfl) ?_
      refine lv_iload_n hx hb dX1_whereIs_8 rfl (lv_at hl 0 rfl) ?_
      have hPc := hP.sub (ws' := [(sh, .inr (1, [.ref r1, .ref r2, .ref r3, .ref r4, .int (nI rc), .int (nI bo), .int lv])), (r1, .inr (0, [.ref j1, .int (nI L1.length)])), (j1, .inl (cI, 30, .inl f1)), (r2, .inr (0, [.ref j2, .int (nI L2.length)])), (j2, .inl (cI, 30, .inl f2)), (r3, .inr (0, [.ref j3, .int (nI L3.length)])), (j3, .inl (cI, 30, .inl f3)), (r4, .inr (0, [.ref j4, .int (nI L4.length)])), (j4, .inl (cI, 30, .inl f4))]) [0, 1, 2, 7, 8, 3, 4, 5, 6] rfl
      have hDc := hD.sub (ws' := [(sh, .inr (1, [.ref r1, .ref r2, .ref r3, .ref r4, .int (nI rc), .int (nI bo), .int lv])), (r1, .inr (0, [.ref j1, .int (nI L1.length)])), (j1, .inl (cI, 30, .inl f1)), (r2, .inr (0, [.ref j2, .int (nI L2.length)])), (j2, .inl (cI, 30, .inl f2)), (r3, .inr (0, [.ref j3, .int (nI L3.length)])), (j3, .inl (cI, 30, .inl f3)), (r4, .inr (0, [.ref j4, .int (nI L4.length)])), (j4, .inl (cI, 30, .inl f4))]) [0, 1, 2, 7, 8, 3, 4, 5, 6] (by decide) rfl
      have hKc := hK.sub (tys' := [(cI, .int)]) [0] rfl
      have hFc := va_free (wc := [(sh, .inr (1, [.ref r1, .ref r2, .ref r3, .ref r4, .int (nI rc), .int (nI bo), .int lv])), (r1, .inr (0, [.ref j1, .int (nI L1.length)])), (j1, .inl (cI, 30, .inl f1)), (r2, .inr (0, [.ref j2, .int (nI L2.length)])), (j2, .inl (cI, 30, .inl f2)), (r3, .inr (0, [.ref j3, .int (nI L3.length)])), (j3, .inl (cI, 30, .inl f3)), (r4, .inr (0, [.ref j4, .int (nI L4.length)])), (j4, .inl (cI, 30, .inl f4))]) hD hS hA [0, 1, 2, 7, 8, 3, 4, 5, 6] rfl
      refine va_callq (va_runV (As := [.int (nI 3)]) (rest := []) ⟨hx, hb, hml, hown, hts⟩ (c_X1_rowAt_3 l G cI sh r1 r2 r3 r4 j1 j2 j3 j4 f1 f2 f3 f4 L1 L2 L3 L4 rc bo lv hR1 hR2 hR3 hR4  H13.size) (cwV 1 hts gX1_whereIs_X1_rowAt rfl rfl rfl (by decide +kernel) ⟨Nat.le_of_ble_eq_true rfl, Nat.le_of_ble_eq_true rfl⟩) (g_preV (As := [.int (nI 3)]) hPc hKc hDc 0 rfl rfl) rfl rfl hl.1 rfl (lv_room (Nat.le_of_ble_eq_true rfl)) dX1_whereIs_9 ⟨(Nat.le_of_ble_eq_true rfl), (Nat.le_of_ble_eq_true rfl)⟩) hS (fun q _ h => hFc q h) hFc (fun r19 u20 t H18 locs ht hvm hw hB hz1 hk1 hS1 => ?_)
      subst hw
      obtain ⟨hP1, hD1⟩ := g_join (wc := [(sh, .inr (1, [.ref r1, .ref r2, .ref r3, .ref r4, .int (nI rc), .int (nI bo), .int lv])), (r1, .inr (0, [.ref j1, .int (nI L1.length)])), (j1, .inl (cI, 30, .inl f1)), (r2, .inr (0, [.ref j2, .int (nI L2.length)])), (j2, .inl (cI, 30, .inl f2)), (r3, .inr (0, [.ref j3, .int (nI L3.length)])), (j3, .inl (cI, 30, .inl f3)), (r4, .inr (0, [.ref j4, .int (nI L4.length)])), (j4, .inl (cI, 30, .inl f4))]) (wr := []) (w1 := [(sh, .inr (1, [.ref r1, .ref r2, .ref r3, .ref r4, .int (nI rc), .int (nI bo), .int lv])), (r1, .inr (0, [.ref j1, .int (nI L1.length)])), (j1, .inl (cI, 30, .inl f1)), (r2, .inr (0, [.ref j2, .int (nI L2.length)])), (j2, .inl (cI, 30, .inl f2)), (r3, .inr (0, [.ref j3, .int (nI L3.length)])), (j3, .inl (cI, 30, .inl f3)), (r4, .inr (0, [.ref j4, .int (nI L4.length)])), (j4, .inl (cI, 30, .inl f4))]) hP hD [0, 1, 2, 7, 8, 3, 4, 5, 6] [] rfl rfl (by decide) (by decide) ht hk1 hFc hB
      clear hB hk1 hz1 hvm ht hPc hDc hKc hFc
      clear hP hD hS
      have hP : va_P G vwCl [(sh, .inr (1, [.ref r1, .ref r2, .ref r3, .ref r4, .int (nI rc), .int (nI bo), .int lv])), (r1, .inr (0, [.ref j1, .int (nI L1.length)])), (j1, .inl (cI, 30, .inl f1)), (r2, .inr (0, [.ref j2, .int (nI L2.length)])), (j2, .inl (cI, 30, .inl f2)), (r3, .inr (0, [.ref j3, .int (nI L3.length)])), (j3, .inl (cI, 30, .inl f3)), (r4, .inr (0, [.ref j4, .int (nI L4.length)])), (j4, .inl (cI, 30, .inl f4))] H18 := hP1
      have hD : va_D A [(sh, .inr (1, [.ref r1, .ref r2, .ref r3, .ref r4, .int (nI rc), .int (nI bo), .int lv])), (r1, .inr (0, [.ref j1, .int (nI L1.length)])), (j1, .inl (cI, 30, .inl f1)), (r2, .inr (0, [.ref j2, .int (nI L2.length)])), (j2, .inl (cI, 30, .inl f2)), (r3, .inr (0, [.ref j3, .int (nI L3.length)])), (j3, .inl (cI, 30, .inl f3)), (r4, .inr (0, [.ref j4, .int (nI L4.length)])), (j4, .inl (cI, 30, .inl f4))] := hD1
      have hS := hS1
      clear hP1 hD1 hS1
      refine W.eq (g2 := F0 m 12 ls [.ref r3]) rfl ?_
      refine lv_astore_n (lv' := [(3, .ref r3), (2, .int (nI 3)), (0, .ref sh), (1, .int jar)]) hx hb dX1_whereIs_12 rfl hl (by decide) rfl (fun ls hl => ?_)
      refine lv_aload_n hx hb dX1_whereIs_13 rfl (lv_at hl 0 rfl) ?_
      refine lv_ifnull hx hb dX1_whereIs_14 ?_
      refine lv_aload_n hx hb dX1_whereIs_17 rfl (lv_at hl 0 rfl) ?_
      refine lv_iload_n hx hb dX1_whereIs_18 rfl (lv_at hl 3 rfl) ?_
      have hPc := hP.sub (ws' := [(r3, .inr (0, [.ref j3, .int (nI L3.length)])), (j3, .inl (cI, 30, .inl f3))]) [5, 6] rfl
      have hDc := hD.sub (ws' := [(r3, .inr (0, [.ref j3, .int (nI L3.length)])), (j3, .inl (cI, 30, .inl f3))]) [5, 6] (by decide) rfl
      have hKc := hK.sub (tys' := [(cI, .int)]) [0] rfl
      have hFc := va_free (wc := [(r3, .inr (0, [.ref j3, .int (nI L3.length)])), (j3, .inl (cI, 30, .inl f3))]) hD hS hA [5, 6] rfl
      refine va_calli (va_runV (As := [.int jar]) (rest := []) ⟨hx, hb, hml, hown, hts⟩ (c_X0_placeOf l G cI r3 j3 f3 L3 hR3 (by omega) jar H18.size) (cwV 1 hts gX1_whereIs_X0_placeOf rfl rfl rfl (by decide +kernel) ⟨Nat.le_of_ble_eq_true rfl, Nat.le_of_ble_eq_true rfl⟩) (g_preV (As := [.int jar]) hPc hKc hDc 0 rfl rfl) rfl rfl hl.1 rfl (lv_room (Nat.le_of_ble_eq_true rfl)) dX1_whereIs_19 ⟨(Nat.le_of_ble_eq_true rfl), (Nat.le_of_ble_eq_true rfl)⟩) hS (fun q _ h => hFc q h) hFc (fun r22 u23 t H21 locs ht hvm hw hB hz1 hk1 hS1 => ?_)
      subst hw
      obtain ⟨hP1, hD1⟩ := g_join (wc := [(r3, .inr (0, [.ref j3, .int (nI L3.length)])), (j3, .inl (cI, 30, .inl f3))]) (wr := [(sh, .inr (1, [.ref r1, .ref r2, .ref r3, .ref r4, .int (nI rc), .int (nI bo), .int lv])), (r1, .inr (0, [.ref j1, .int (nI L1.length)])), (j1, .inl (cI, 30, .inl f1)), (r2, .inr (0, [.ref j2, .int (nI L2.length)])), (j2, .inl (cI, 30, .inl f2)), (r4, .inr (0, [.ref j4, .int (nI L4.length)])), (j4, .inl (cI, 30, .inl f4))]) (w1 := [(r3, .inr (0, [.ref j3, .int (nI L3.length)])), (j3, .inl (cI, 30, .inl f3))]) hP hD [5, 6] [0, 1, 2, 3, 4, 7, 8] rfl rfl (by decide) (by decide) ht hk1 hFc hB
      clear hB hk1 hz1 hvm ht hPc hDc hKc hFc
      clear hP hD hS
      have hP : va_P G vwCl [(sh, .inr (1, [.ref r1, .ref r2, .ref r3, .ref r4, .int (nI rc), .int (nI bo), .int lv])), (r1, .inr (0, [.ref j1, .int (nI L1.length)])), (j1, .inl (cI, 30, .inl f1)), (r2, .inr (0, [.ref j2, .int (nI L2.length)])), (j2, .inl (cI, 30, .inl f2)), (r4, .inr (0, [.ref j4, .int (nI L4.length)])), (j4, .inl (cI, 30, .inl f4)), (r3, .inr (0, [.ref j3, .int (nI L3.length)])), (j3, .inl (cI, 30, .inl f3))] H21 := hP1
      have hD : va_D A [(sh, .inr (1, [.ref r1, .ref r2, .ref r3, .ref r4, .int (nI rc), .int (nI bo), .int lv])), (r1, .inr (0, [.ref j1, .int (nI L1.length)])), (j1, .inl (cI, 30, .inl f1)), (r2, .inr (0, [.ref j2, .int (nI L2.length)])), (j2, .inl (cI, 30, .inl f2)), (r4, .inr (0, [.ref j4, .int (nI L4.length)])), (j4, .inl (cI, 30, .inl f4)), (r3, .inr (0, [.ref j3, .int (nI L3.length)])), (j3, .inl (cI, 30, .inl f3))] := hD1
      have hS := hS1
      clear hP1 hD1 hS1
      refine lv_iconst (v := (-1)) hx hb dX1_whereIs_22 (by decide +kernel) ?_
      refine lv_icmp_eq (tgt := 28) hx hb dX1_whereIs_23 (by decide) (fun c24 => ?_) (fun c24 => ?_)
      · have m3 : jar ∉ L3 := pos_out (by omega) c24
        refine lv_iinc (v := (nI 4)) (lv' := [(2, .int (nI 4)), (3, .ref r3), (0, .ref sh), (1, .int jar)]) hx hb dX1_whereIs_28 hl (k := 1) rfl (by decide +kernel) (by decide) rfl (fun ls hl => ?_)
        refine lv_goto (tgt := 2) hx hb dX1_whereIs_31 (by decide) ?_
        refine lv_iload_n hx hb dX1_whereIs_2 rfl (lv_at hl 0 rfl) ?_
        refine lv_iconst (v := (nI 4)) hx hb dX1_whereIs_3 (by decide +kernel) ?_
        refine g_icmp_gt (tgt := 34) hx hb dX1_whereIs_4 (by decide) (by decide) (by decide) (fun c25 => False.elim (by omega)) (fun c25 => ?_)
        refine lv_aload_n hx hb dX1_whereIs_7 rfl (lv_at hl 2 rfl) ?_
        refine lv_iload_n hx hb dX1_whereIs_8 rfl (lv_at hl 0 rfl) ?_
        have hPc := hP.sub (ws' := [(sh, .inr (1, [.ref r1, .ref r2, .ref r3, .ref r4, .int (nI rc), .int (nI bo), .int lv])), (r1, .inr (0, [.ref j1, .int (nI L1.length)])), (j1, .inl (cI, 30, .inl f1)), (r2, .inr (0, [.ref j2, .int (nI L2.length)])), (j2, .inl (cI, 30, .inl f2)), (r3, .inr (0, [.ref j3, .int (nI L3.length)])), (j3, .inl (cI, 30, .inl f3)), (r4, .inr (0, [.ref j4, .int (nI L4.length)])), (j4, .inl (cI, 30, .inl f4))]) [0, 1, 2, 3, 4, 7, 8, 5, 6] rfl
        have hDc := hD.sub (ws' := [(sh, .inr (1, [.ref r1, .ref r2, .ref r3, .ref r4, .int (nI rc), .int (nI bo), .int lv])), (r1, .inr (0, [.ref j1, .int (nI L1.length)])), (j1, .inl (cI, 30, .inl f1)), (r2, .inr (0, [.ref j2, .int (nI L2.length)])), (j2, .inl (cI, 30, .inl f2)), (r3, .inr (0, [.ref j3, .int (nI L3.length)])), (j3, .inl (cI, 30, .inl f3)), (r4, .inr (0, [.ref j4, .int (nI L4.length)])), (j4, .inl (cI, 30, .inl f4))]) [0, 1, 2, 3, 4, 7, 8, 5, 6] (by decide) rfl
        have hKc := hK.sub (tys' := [(cI, .int)]) [0] rfl
        have hFc := va_free (wc := [(sh, .inr (1, [.ref r1, .ref r2, .ref r3, .ref r4, .int (nI rc), .int (nI bo), .int lv])), (r1, .inr (0, [.ref j1, .int (nI L1.length)])), (j1, .inl (cI, 30, .inl f1)), (r2, .inr (0, [.ref j2, .int (nI L2.length)])), (j2, .inl (cI, 30, .inl f2)), (r3, .inr (0, [.ref j3, .int (nI L3.length)])), (j3, .inl (cI, 30, .inl f3)), (r4, .inr (0, [.ref j4, .int (nI L4.length)])), (j4, .inl (cI, 30, .inl f4))]) hD hS hA [0, 1, 2, 3, 4, 7, 8, 5, 6] rfl
        refine va_callq (va_runV (As := [.int (nI 4)]) (rest := []) ⟨hx, hb, hml, hown, hts⟩ (c_X1_rowAt_4 l G cI sh r1 r2 r3 r4 j1 j2 j3 j4 f1 f2 f3 f4 L1 L2 L3 L4 rc bo lv hR1 hR2 hR3 hR4  H21.size) (cwV 1 hts gX1_whereIs_X1_rowAt rfl rfl rfl (by decide +kernel) ⟨Nat.le_of_ble_eq_true rfl, Nat.le_of_ble_eq_true rfl⟩) (g_preV (As := [.int (nI 4)]) hPc hKc hDc 0 rfl rfl) rfl rfl hl.1 rfl (lv_room (Nat.le_of_ble_eq_true rfl)) dX1_whereIs_9 ⟨(Nat.le_of_ble_eq_true rfl), (Nat.le_of_ble_eq_true rfl)⟩) hS (fun q _ h => hFc q h) hFc (fun r27 u28 t H26 locs ht hvm hw hB hz1 hk1 hS1 => ?_)
        subst hw
        obtain ⟨hP1, hD1⟩ := g_join (wc := [(sh, .inr (1, [.ref r1, .ref r2, .ref r3, .ref r4, .int (nI rc), .int (nI bo), .int lv])), (r1, .inr (0, [.ref j1, .int (nI L1.length)])), (j1, .inl (cI, 30, .inl f1)), (r2, .inr (0, [.ref j2, .int (nI L2.length)])), (j2, .inl (cI, 30, .inl f2)), (r3, .inr (0, [.ref j3, .int (nI L3.length)])), (j3, .inl (cI, 30, .inl f3)), (r4, .inr (0, [.ref j4, .int (nI L4.length)])), (j4, .inl (cI, 30, .inl f4))]) (wr := []) (w1 := [(sh, .inr (1, [.ref r1, .ref r2, .ref r3, .ref r4, .int (nI rc), .int (nI bo), .int lv])), (r1, .inr (0, [.ref j1, .int (nI L1.length)])), (j1, .inl (cI, 30, .inl f1)), (r2, .inr (0, [.ref j2, .int (nI L2.length)])), (j2, .inl (cI, 30, .inl f2)), (r3, .inr (0, [.ref j3, .int (nI L3.length)])), (j3, .inl (cI, 30, .inl f3)), (r4, .inr (0, [.ref j4, .int (nI L4.length)])), (j4, .inl (cI, 30, .inl f4))]) hP hD [0, 1, 2, 3, 4, 7, 8, 5, 6] [] rfl rfl (by decide) (by decide) ht hk1 hFc hB
        clear hB hk1 hz1 hvm ht hPc hDc hKc hFc
        clear hP hD hS
        have hP : va_P G vwCl [(sh, .inr (1, [.ref r1, .ref r2, .ref r3, .ref r4, .int (nI rc), .int (nI bo), .int lv])), (r1, .inr (0, [.ref j1, .int (nI L1.length)])), (j1, .inl (cI, 30, .inl f1)), (r2, .inr (0, [.ref j2, .int (nI L2.length)])), (j2, .inl (cI, 30, .inl f2)), (r3, .inr (0, [.ref j3, .int (nI L3.length)])), (j3, .inl (cI, 30, .inl f3)), (r4, .inr (0, [.ref j4, .int (nI L4.length)])), (j4, .inl (cI, 30, .inl f4))] H26 := hP1
        have hD : va_D A [(sh, .inr (1, [.ref r1, .ref r2, .ref r3, .ref r4, .int (nI rc), .int (nI bo), .int lv])), (r1, .inr (0, [.ref j1, .int (nI L1.length)])), (j1, .inl (cI, 30, .inl f1)), (r2, .inr (0, [.ref j2, .int (nI L2.length)])), (j2, .inl (cI, 30, .inl f2)), (r3, .inr (0, [.ref j3, .int (nI L3.length)])), (j3, .inl (cI, 30, .inl f3)), (r4, .inr (0, [.ref j4, .int (nI L4.length)])), (j4, .inl (cI, 30, .inl f4))] := hD1
        have hS := hS1
        clear hP1 hD1 hS1
        refine W.eq (g2 := F0 m 12 ls [.ref r4]) rfl ?_
        refine lv_astore_n (lv' := [(3, .ref r4), (2, .int (nI 4)), (0, .ref sh), (1, .int jar)]) hx hb dX1_whereIs_12 rfl hl (by decide) rfl (fun ls hl => ?_)
        refine lv_aload_n hx hb dX1_whereIs_13 rfl (lv_at hl 0 rfl) ?_
        refine lv_ifnull hx hb dX1_whereIs_14 ?_
        refine lv_aload_n hx hb dX1_whereIs_17 rfl (lv_at hl 0 rfl) ?_
        refine lv_iload_n hx hb dX1_whereIs_18 rfl (lv_at hl 3 rfl) ?_
        have hPc := hP.sub (ws' := [(r4, .inr (0, [.ref j4, .int (nI L4.length)])), (j4, .inl (cI, 30, .inl f4))]) [7, 8] rfl
        have hDc := hD.sub (ws' := [(r4, .inr (0, [.ref j4, .int (nI L4.length)])), (j4, .inl (cI, 30, .inl f4))]) [7, 8] (by decide) rfl
        have hKc := hK.sub (tys' := [(cI, .int)]) [0] rfl
        have hFc := va_free (wc := [(r4, .inr (0, [.ref j4, .int (nI L4.length)])), (j4, .inl (cI, 30, .inl f4))]) hD hS hA [7, 8] rfl
        refine va_calli (va_runV (As := [.int jar]) (rest := []) ⟨hx, hb, hml, hown, hts⟩ (c_X0_placeOf l G cI r4 j4 f4 L4 hR4 (by omega) jar H26.size) (cwV 1 hts gX1_whereIs_X0_placeOf rfl rfl rfl (by decide +kernel) ⟨Nat.le_of_ble_eq_true rfl, Nat.le_of_ble_eq_true rfl⟩) (g_preV (As := [.int jar]) hPc hKc hDc 0 rfl rfl) rfl rfl hl.1 rfl (lv_room (Nat.le_of_ble_eq_true rfl)) dX1_whereIs_19 ⟨(Nat.le_of_ble_eq_true rfl), (Nat.le_of_ble_eq_true rfl)⟩) hS (fun q _ h => hFc q h) hFc (fun r30 u31 t H29 locs ht hvm hw hB hz1 hk1 hS1 => ?_)
        subst hw
        obtain ⟨hP1, hD1⟩ := g_join (wc := [(r4, .inr (0, [.ref j4, .int (nI L4.length)])), (j4, .inl (cI, 30, .inl f4))]) (wr := [(sh, .inr (1, [.ref r1, .ref r2, .ref r3, .ref r4, .int (nI rc), .int (nI bo), .int lv])), (r1, .inr (0, [.ref j1, .int (nI L1.length)])), (j1, .inl (cI, 30, .inl f1)), (r2, .inr (0, [.ref j2, .int (nI L2.length)])), (j2, .inl (cI, 30, .inl f2)), (r3, .inr (0, [.ref j3, .int (nI L3.length)])), (j3, .inl (cI, 30, .inl f3))]) (w1 := [(r4, .inr (0, [.ref j4, .int (nI L4.length)])), (j4, .inl (cI, 30, .inl f4))]) hP hD [7, 8] [0, 1, 2, 3, 4, 5, 6] rfl rfl (by decide) (by decide) ht hk1 hFc hB
        clear hB hk1 hz1 hvm ht hPc hDc hKc hFc
        clear hP hD hS
        have hP : va_P G vwCl [(sh, .inr (1, [.ref r1, .ref r2, .ref r3, .ref r4, .int (nI rc), .int (nI bo), .int lv])), (r1, .inr (0, [.ref j1, .int (nI L1.length)])), (j1, .inl (cI, 30, .inl f1)), (r2, .inr (0, [.ref j2, .int (nI L2.length)])), (j2, .inl (cI, 30, .inl f2)), (r3, .inr (0, [.ref j3, .int (nI L3.length)])), (j3, .inl (cI, 30, .inl f3)), (r4, .inr (0, [.ref j4, .int (nI L4.length)])), (j4, .inl (cI, 30, .inl f4))] H29 := hP1
        have hD : va_D A [(sh, .inr (1, [.ref r1, .ref r2, .ref r3, .ref r4, .int (nI rc), .int (nI bo), .int lv])), (r1, .inr (0, [.ref j1, .int (nI L1.length)])), (j1, .inl (cI, 30, .inl f1)), (r2, .inr (0, [.ref j2, .int (nI L2.length)])), (j2, .inl (cI, 30, .inl f2)), (r3, .inr (0, [.ref j3, .int (nI L3.length)])), (j3, .inl (cI, 30, .inl f3)), (r4, .inr (0, [.ref j4, .int (nI L4.length)])), (j4, .inl (cI, 30, .inl f4))] := hD1
        have hS := hS1
        clear hP1 hD1 hS1
        refine lv_iconst (v := (-1)) hx hb dX1_whereIs_22 (by decide +kernel) ?_
        refine lv_icmp_eq (tgt := 28) hx hb dX1_whereIs_23 (by decide) (fun c32 => ?_) (fun c32 => ?_)
        · have m4 : jar ∉ L4 := pos_out (by omega) c32
          refine lv_iinc (v := (nI 5)) (lv' := [(2, .int (nI 5)), (3, .ref r4), (0, .ref sh), (1, .int jar)]) hx hb dX1_whereIs_28 hl (k := 1) rfl (by decide +kernel) (by decide) rfl (fun ls hl => ?_)
          refine lv_goto (tgt := 2) hx hb dX1_whereIs_31 (by decide) ?_
          refine lv_iload_n hx hb dX1_whereIs_2 rfl (lv_at hl 0 rfl) ?_
          refine lv_iconst (v := (nI 4)) hx hb dX1_whereIs_3 (by decide +kernel) ?_
          refine g_icmp_gt (tgt := 34) hx hb dX1_whereIs_4 (by decide) (by decide) (by decide) (fun c33 => ?_) (fun c33 => False.elim (by omega))
          refine lv_iconst (v := (nI 0)) hx hb dX1_whereIs_34 (by decide +kernel) ?_
          have hP9 := hP.sub (ws' := [(sh, .inr (1, [.ref r1, .ref r2, .ref r3, .ref r4, .int (nI rc), .int (nI bo), .int lv])), (r1, .inr (0, [.ref j1, .int (nI L1.length)])), (j1, .inl (cI, 30, .inl f1)), (r2, .inr (0, [.ref j2, .int (nI L2.length)])), (j2, .inl (cI, 30, .inl f2)), (r3, .inr (0, [.ref j3, .int (nI L3.length)])), (j3, .inl (cI, 30, .inl f3)), (r4, .inr (0, [.ref j4, .int (nI L4.length)])), (j4, .inl (cI, 30, .inl f4))]) [0, 1, 2, 3, 4, 5, 6, 7, 8] rfl
          have hD9 := hD.sub (ws' := [(sh, .inr (1, [.ref r1, .ref r2, .ref r3, .ref r4, .int (nI rc), .int (nI bo), .int lv])), (r1, .inr (0, [.ref j1, .int (nI L1.length)])), (j1, .inl (cI, 30, .inl f1)), (r2, .inr (0, [.ref j2, .int (nI L2.length)])), (j2, .inl (cI, 30, .inl f2)), (r3, .inr (0, [.ref j3, .int (nI L3.length)])), (j3, .inl (cI, 30, .inl f3)), (r4, .inr (0, [.ref j4, .int (nI L4.length)])), (j4, .inl (cI, 30, .inl f4))]) [0, 1, 2, 3, 4, 5, 6, 7, 8] (by decide) rfl
          exact W.iret (v := (nI 0)) hx hb hr (fun t ht hW => ⟨⟨(nI 0), (), rfl, (whr0 m1 m2 m3 m4), g_at hP9 hK hD9 ht hW⟩, hS.F ht⟩) hS.2.2 dX1_whereIs_35
        · have m4 : jar ∈ L4 := pos_in (by omega) c32
          refine lv_iload_n hx hb dX1_whereIs_26 rfl (lv_at hl 1 rfl) ?_
          have hP9 := hP.sub (ws' := [(sh, .inr (1, [.ref r1, .ref r2, .ref r3, .ref r4, .int (nI rc), .int (nI bo), .int lv])), (r1, .inr (0, [.ref j1, .int (nI L1.length)])), (j1, .inl (cI, 30, .inl f1)), (r2, .inr (0, [.ref j2, .int (nI L2.length)])), (j2, .inl (cI, 30, .inl f2)), (r3, .inr (0, [.ref j3, .int (nI L3.length)])), (j3, .inl (cI, 30, .inl f3)), (r4, .inr (0, [.ref j4, .int (nI L4.length)])), (j4, .inl (cI, 30, .inl f4))]) [0, 1, 2, 3, 4, 5, 6, 7, 8] rfl
          have hD9 := hD.sub (ws' := [(sh, .inr (1, [.ref r1, .ref r2, .ref r3, .ref r4, .int (nI rc), .int (nI bo), .int lv])), (r1, .inr (0, [.ref j1, .int (nI L1.length)])), (j1, .inl (cI, 30, .inl f1)), (r2, .inr (0, [.ref j2, .int (nI L2.length)])), (j2, .inl (cI, 30, .inl f2)), (r3, .inr (0, [.ref j3, .int (nI L3.length)])), (j3, .inl (cI, 30, .inl f3)), (r4, .inr (0, [.ref j4, .int (nI L4.length)])), (j4, .inl (cI, 30, .inl f4))]) [0, 1, 2, 3, 4, 5, 6, 7, 8] (by decide) rfl
          exact W.iret (v := (nI 4)) hx hb hr (fun t ht hW => ⟨⟨(nI 4), (), rfl, (whr4 m1 m2 m3 m4), g_at hP9 hK hD9 ht hW⟩, hS.F ht⟩) hS.2.2 dX1_whereIs_27
      · have m3 : jar ∈ L3 := pos_in (by omega) c24
        refine lv_iload_n hx hb dX1_whereIs_26 rfl (lv_at hl 1 rfl) ?_
        have hP9 := hP.sub (ws' := [(sh, .inr (1, [.ref r1, .ref r2, .ref r3, .ref r4, .int (nI rc), .int (nI bo), .int lv])), (r1, .inr (0, [.ref j1, .int (nI L1.length)])), (j1, .inl (cI, 30, .inl f1)), (r2, .inr (0, [.ref j2, .int (nI L2.length)])), (j2, .inl (cI, 30, .inl f2)), (r3, .inr (0, [.ref j3, .int (nI L3.length)])), (j3, .inl (cI, 30, .inl f3)), (r4, .inr (0, [.ref j4, .int (nI L4.length)])), (j4, .inl (cI, 30, .inl f4))]) [0, 1, 2, 3, 4, 7, 8, 5, 6] rfl
        have hD9 := hD.sub (ws' := [(sh, .inr (1, [.ref r1, .ref r2, .ref r3, .ref r4, .int (nI rc), .int (nI bo), .int lv])), (r1, .inr (0, [.ref j1, .int (nI L1.length)])), (j1, .inl (cI, 30, .inl f1)), (r2, .inr (0, [.ref j2, .int (nI L2.length)])), (j2, .inl (cI, 30, .inl f2)), (r3, .inr (0, [.ref j3, .int (nI L3.length)])), (j3, .inl (cI, 30, .inl f3)), (r4, .inr (0, [.ref j4, .int (nI L4.length)])), (j4, .inl (cI, 30, .inl f4))]) [0, 1, 2, 3, 4, 7, 8, 5, 6] (by decide) rfl
        exact W.iret (v := (nI 3)) hx hb hr (fun t ht hW => ⟨⟨(nI 3), (), rfl, (whr3 m1 m2 m3), g_at hP9 hK hD9 ht hW⟩, hS.F ht⟩) hS.2.2 dX1_whereIs_27
    · have m2 : jar ∈ L2 := pos_in (by omega) c16
      refine lv_iload_n hx hb dX1_whereIs_26 rfl (lv_at hl 1 rfl) ?_
      have hP9 := hP.sub (ws' := [(sh, .inr (1, [.ref r1, .ref r2, .ref r3, .ref r4, .int (nI rc), .int (nI bo), .int lv])), (r1, .inr (0, [.ref j1, .int (nI L1.length)])), (j1, .inl (cI, 30, .inl f1)), (r2, .inr (0, [.ref j2, .int (nI L2.length)])), (j2, .inl (cI, 30, .inl f2)), (r3, .inr (0, [.ref j3, .int (nI L3.length)])), (j3, .inl (cI, 30, .inl f3)), (r4, .inr (0, [.ref j4, .int (nI L4.length)])), (j4, .inl (cI, 30, .inl f4))]) [0, 1, 2, 7, 8, 3, 4, 5, 6] rfl
      have hD9 := hD.sub (ws' := [(sh, .inr (1, [.ref r1, .ref r2, .ref r3, .ref r4, .int (nI rc), .int (nI bo), .int lv])), (r1, .inr (0, [.ref j1, .int (nI L1.length)])), (j1, .inl (cI, 30, .inl f1)), (r2, .inr (0, [.ref j2, .int (nI L2.length)])), (j2, .inl (cI, 30, .inl f2)), (r3, .inr (0, [.ref j3, .int (nI L3.length)])), (j3, .inl (cI, 30, .inl f3)), (r4, .inr (0, [.ref j4, .int (nI L4.length)])), (j4, .inl (cI, 30, .inl f4))]) [0, 1, 2, 7, 8, 3, 4, 5, 6] (by decide) rfl
      exact W.iret (v := (nI 2)) hx hb hr (fun t ht hW => ⟨⟨(nI 2), (), rfl, (whr2 m1 m2), g_at hP9 hK hD9 ht hW⟩, hS.F ht⟩) hS.2.2 dX1_whereIs_27
  · have m1 : jar ∈ L1 := pos_in (by omega) c8
    refine lv_iload_n hx hb dX1_whereIs_26 rfl (lv_at hl 1 rfl) ?_
    have hP9 := hP.sub (ws' := [(sh, .inr (1, [.ref r1, .ref r2, .ref r3, .ref r4, .int (nI rc), .int (nI bo), .int lv])), (r1, .inr (0, [.ref j1, .int (nI L1.length)])), (j1, .inl (cI, 30, .inl f1)), (r2, .inr (0, [.ref j2, .int (nI L2.length)])), (j2, .inl (cI, 30, .inl f2)), (r3, .inr (0, [.ref j3, .int (nI L3.length)])), (j3, .inl (cI, 30, .inl f3)), (r4, .inr (0, [.ref j4, .int (nI L4.length)])), (j4, .inl (cI, 30, .inl f4))]) [0, 7, 8, 1, 2, 3, 4, 5, 6] rfl
    have hD9 := hD.sub (ws' := [(sh, .inr (1, [.ref r1, .ref r2, .ref r3, .ref r4, .int (nI rc), .int (nI bo), .int lv])), (r1, .inr (0, [.ref j1, .int (nI L1.length)])), (j1, .inl (cI, 30, .inl f1)), (r2, .inr (0, [.ref j2, .int (nI L2.length)])), (j2, .inl (cI, 30, .inl f2)), (r3, .inr (0, [.ref j3, .int (nI L3.length)])), (j3, .inl (cI, 30, .inl f3)), (r4, .inr (0, [.ref j4, .int (nI L4.length)])), (j4, .inl (cI, 30, .inl f4))]) [0, 7, 8, 1, 2, 3, 4, 5, 6] (by decide) rfl
    exact W.iret (v := (nI 1)) hx hb hr (fun t ht hW => ⟨⟨(nI 1), (), rfl, (whr1 m1), g_at hP9 hK hD9 ht hW⟩, hS.F ht⟩) hS.2.2 dX1_whereIs_27

set_option maxHeartbeats 4000000 in
set_option maxRecDepth 100000 in
theorem c_X1_step_4 (l : Launch) (G : va_G) (cI : ClassId) (sh r1 r2 r3 r4 j1 j2 j3 j4 : Nat) (f1 f2 f3 f4 : Nat → Int32) (L1 L2 L3 L4 : List Int32) (rc bo : Nat) (lv : Int32) (hR1 : Rw f1 L1) (hR2 : Rw f2 L2) (hR3 : Rw f3 L3) (hR4 : Rw f4 L4) (h0 : 0 < L3.length) (h1 : L3.length ≤ 30) (h2 : L4.length ≤ 30) (sz : Nat) : Met l yX1_step wsX1_step ({ frames := 1, cells := 0, slots := 0, locals := 20 }) (va_Pc [.ref sh, .ref r4, .ref r3] (gpre G [(cI, .int)] [(sh, .inr (1, [.ref r1, .ref r2, .ref r3, .ref r4, .int (nI rc), .int (nI bo), .int lv])), (r1, .inr (0, [.ref j1, .int (nI L1.length)])), (j1, .inl (cI, 30, .inl f1)), (r2, .inr (0, [.ref j2, .int (nI L2.length)])), (j2, .inl (cI, 30, .inl f2)), (r3, .inr (0, [.ref j3, .int (nI L3.length)])), (j3, .inl (cI, 30, .inl f3)), (r4, .inr (0, [.ref j4, .int (nI L4.length)])), (j4, .inl (cI, 30, .inl f4))] sz)) (va_Qi (fun (z : Int32) (_ : Unit) => z = nI (stp L4.length L3.length)) (fun (_ : Unit) t => gat G [(cI, .int)] (va_A [(sh, .inr (1, [.ref r1, .ref r2, .ref r3, .ref r4, .int (nI rc), .int (nI bo), .int lv])), (r1, .inr (0, [.ref j1, .int (nI L1.length)])), (j1, .inl (cI, 30, .inl f1)), (r2, .inr (0, [.ref j2, .int (nI L2.length)])), (j2, .inl (cI, 30, .inl f2)), (r3, .inr (0, [.ref j3, .int (nI L3.length)])), (j3, .inl (cI, 30, .inl f3)), (r4, .inr (0, [.ref j4, .int (nI L4.length)])), (j4, .inl (cI, 30, .inl f4))] sz) [(sh, .inr (1, [.ref r1, .ref r2, .ref r3, .ref r4, .int (nI rc), .int (nI bo), .int lv])), (r1, .inr (0, [.ref j1, .int (nI L1.length)])), (j1, .inl (cI, 30, .inl f1)), (r2, .inr (0, [.ref j2, .int (nI L2.length)])), (j2, .inl (cI, 30, .inl f2)), (r3, .inr (0, [.ref j3, .int (nI L3.length)])), (j3, .inl (cI, 30, .inl f3)), (r4, .inr (0, [.ref j4, .int (nI L4.length)])), (j4, .inl (cI, 30, .inl f4))] t) (va_A [(sh, .inr (1, [.ref r1, .ref r2, .ref r3, .ref r4, .int (nI rc), .int (nI bo), .int lv])), (r1, .inr (0, [.ref j1, .int (nI L1.length)])), (j1, .inl (cI, 30, .inl f1)), (r2, .inr (0, [.ref j2, .int (nI L2.length)])), (j2, .inl (cI, 30, .inl f2)), (r3, .inr (0, [.ref j3, .int (nI L3.length)])), (j3, .inl (cI, 30, .inl f3)), (r4, .inr (0, [.ref j4, .int (nI L4.length)])), (j4, .inl (cI, 30, .inl f4))] sz)) 0 0 (va_A [(sh, .inr (1, [.ref r1, .ref r2, .ref r3, .ref r4, .int (nI rc), .int (nI bo), .int lv])), (r1, .inr (0, [.ref j1, .int (nI L1.length)])), (j1, .inl (cI, 30, .inl f1)), (r2, .inr (0, [.ref j2, .int (nI L2.length)])), (j2, .inl (cI, 30, .inl f2)), (r3, .inr (0, [.ref j3, .int (nI L3.length)])), (j3, .inl (cI, 30, .inl f3)), (r4, .inr (0, [.ref j4, .int (nI L4.length)])), (j4, .inl (cI, 30, .inl f4))] sz) := by
  refine Met.ofW (cc := cX1_step) (maxL := 4) (ret := (some .int)) (by decide) rfl ?_
  intro p e s m args below meth c s₁ B hml hv
  obtain ⟨rfl, hsz, hP, hK, hD0⟩ := hv
  have hx := B.exec
  have hb := B.bytes
  have hr := B.returns
  have hts := atoms_spec (ws := wsX1_step) B.pre
  have hown : s.vm.findClass RX1 = some m.cls := findClass_of_methodNamed B.named
  have hlocks := B.notSynchronized
  subst hsz
  have hD := hD0.self (sz := s.heap.size)
  clear hD0
  generalize hAe : va_A [(sh, .inr (1, [.ref r1, .ref r2, .ref r3, .ref r4, .int (nI rc), .int (nI bo), .int lv])), (r1, .inr (0, [.ref j1, .int (nI L1.length)])), (j1, .inl (cI, 30, .inl f1)), (r2, .inr (0, [.ref j2, .int (nI L2.length)])), (j2, .inl (cI, 30, .inl f2)), (r3, .inr (0, [.ref j3, .int (nI L3.length)])), (j3, .inl (cI, 30, .inl f3)), (r4, .inr (0, [.ref j4, .int (nI L4.length)])), (j4, .inl (cI, 30, .inl f4))] s.heap.size = A at hD ⊢
  have hA : ∀ q : Nat, s.heap.size ≤ q → A q := fun q h => by rw [← hAe]; exact Or.inr h
  have hS : va_S A s.heap s.heap [] := va_S.rf
  have hP : va_P G vwCl [(sh, .inr (1, [.ref r1, .ref r2, .ref r3, .ref r4, .int (nI rc), .int (nI bo), .int lv])), (r1, .inr (0, [.ref j1, .int (nI L1.length)])), (j1, .inl (cI, 30, .inl f1)), (r2, .inr (0, [.ref j2, .int (nI L2.length)])), (j2, .inl (cI, 30, .inl f2)), (r3, .inr (0, [.ref j3, .int (nI L3.length)])), (j3, .inl (cI, 30, .inl f3)), (r4, .inr (0, [.ref j4, .int (nI L4.length)])), (j4, .inl (cI, 30, .inl f4))] s.heap := hP
  have hl := lv_entry ([.ref sh, .ref r4, .ref r3]) (n := 4) (Nat.le_of_ble_eq_true rfl)
  rw [lg_entry_eq]
  generalize (lg_sl ([.ref sh, .ref r4, .ref r3]) ++ List.replicate (4 - (lg_sl ([.ref sh, .ref r4, .ref r3])).length) Slot.unset).toArray = ls at hl ⊢
  have hl : lv_has ls 4 [(0, .ref sh), (1, .ref r4), (2, .ref r3)] := hl
  refine lv_aload_n hx hb dX1_step_0 rfl (lv_at hl 2 rfl) ?_
  have hPc := hP.sub (ws' := [(r3, .inr (0, [.ref j3, .int (nI L3.length)])), (j3, .inl (cI, 30, .inl f3))]) [5, 6] rfl
  have hDc := hD.sub (ws' := [(r3, .inr (0, [.ref j3, .int (nI L3.length)])), (j3, .inl (cI, 30, .inl f3))]) [5, 6] (by decide) rfl
  have hKc := hK.sub (tys' := [(cI, .int)]) [0] rfl
  have hFc := va_free (wc := [(r3, .inr (0, [.ref j3, .int (nI L3.length)])), (j3, .inl (cI, 30, .inl f3))]) hD hS hA [5, 6] rfl
  refine va_calli (va_runV (As := []) (rest := []) ⟨hx, hb, hml, hown, hts⟩ (c_X0_length l G cI r3 j3 f3 L3 hR3 (by omega)  s.heap.size) (cwV 0 hts gX1_step_X0_length rfl rfl rfl (by decide +kernel) ⟨Nat.le_of_ble_eq_true rfl, Nat.le_of_ble_eq_true rfl⟩) (g_preV (As := []) hPc hKc hDc 0 rfl rfl) rfl rfl hl.1 rfl (lv_room (Nat.le_of_ble_eq_true rfl)) dX1_step_1 ⟨(Nat.le_of_ble_eq_true rfl), (Nat.le_of_ble_eq_true rfl)⟩) hS (fun q _ h => hFc q h) hFc (fun r2 u3 t H1 locs ht hvm hw hB hz1 hk1 hS1 => ?_)
  subst hw
  obtain ⟨hP1, hD1⟩ := g_join (wc := [(r3, .inr (0, [.ref j3, .int (nI L3.length)])), (j3, .inl (cI, 30, .inl f3))]) (wr := [(sh, .inr (1, [.ref r1, .ref r2, .ref r3, .ref r4, .int (nI rc), .int (nI bo), .int lv])), (r1, .inr (0, [.ref j1, .int (nI L1.length)])), (j1, .inl (cI, 30, .inl f1)), (r2, .inr (0, [.ref j2, .int (nI L2.length)])), (j2, .inl (cI, 30, .inl f2)), (r4, .inr (0, [.ref j4, .int (nI L4.length)])), (j4, .inl (cI, 30, .inl f4))]) (w1 := [(r3, .inr (0, [.ref j3, .int (nI L3.length)])), (j3, .inl (cI, 30, .inl f3))]) hP hD [5, 6] [0, 1, 2, 3, 4, 7, 8] rfl rfl (by decide) (by decide) ht hk1 hFc hB
  clear hB hk1 hz1 hvm ht hPc hDc hKc hFc
  clear hP hD hS
  have hP : va_P G vwCl [(sh, .inr (1, [.ref r1, .ref r2, .ref r3, .ref r4, .int (nI rc), .int (nI bo), .int lv])), (r1, .inr (0, [.ref j1, .int (nI L1.length)])), (j1, .inl (cI, 30, .inl f1)), (r2, .inr (0, [.ref j2, .int (nI L2.length)])), (j2, .inl (cI, 30, .inl f2)), (r4, .inr (0, [.ref j4, .int (nI L4.length)])), (j4, .inl (cI, 30, .inl f4)), (r3, .inr (0, [.ref j3, .int (nI L3.length)])), (j3, .inl (cI, 30, .inl f3))] H1 := hP1
  have hD : va_D A [(sh, .inr (1, [.ref r1, .ref r2, .ref r3, .ref r4, .int (nI rc), .int (nI bo), .int lv])), (r1, .inr (0, [.ref j1, .int (nI L1.length)])), (j1, .inl (cI, 30, .inl f1)), (r2, .inr (0, [.ref j2, .int (nI L2.length)])), (j2, .inl (cI, 30, .inl f2)), (r4, .inr (0, [.ref j4, .int (nI L4.length)])), (j4, .inl (cI, 30, .inl f4)), (r3, .inr (0, [.ref j3, .int (nI L3.length)])), (j3, .inl (cI, 30, .inl f3))] := hD1
  have hS := hS1
  clear hP1 hD1 hS1
  refine lv_istore_n (lv' := [(3, .int (nI L3.length)), (0, .ref sh), (1, .ref r4), (2, .ref r3)]) hx hb dX1_step_4 rfl hl (by decide) rfl (fun ls hl => ?_)
  refine lv_iload_n hx hb dX1_step_5 rfl (lv_at hl 0 rfl) ?_
  refine g_if_gt (tgt := 11) hx hb dX1_step_6 (by decide) (by omega) (fun c4 => ?_) (fun c4 => False.elim (by omega))
  refine lv_iconst (v := (nI 1)) hx hb dX1_step_11 (by decide +kernel) ?_
  refine lv_aload_n hx hb dX1_step_12 rfl (lv_at hl 2 rfl) ?_
  have hPc := hP.sub (ws' := [(r4, .inr (0, [.ref j4, .int (nI L4.length)])), (j4, .inl (cI, 30, .inl f4))]) [5, 6] rfl
  have hDc := hD.sub (ws' := [(r4, .inr (0, [.ref j4, .int (nI L4.length)])), (j4, .inl (cI, 30, .inl f4))]) [5, 6] (by decide) rfl
  have hKc := hK.sub (tys' := [(cI, .int)]) [0] rfl
  have hFc := va_free (wc := [(r4, .inr (0, [.ref j4, .int (nI L4.length)])), (j4, .inl (cI, 30, .inl f4))]) hD hS hA [5, 6] rfl
  refine va_calli (va_runV (As := []) (rest := [.int (nI 1)]) ⟨hx, hb, hml, hown, hts⟩ (c_X0_length l G cI r4 j4 f4 L4 hR4 (by omega)  H1.size) (cwV 0 hts gX1_step_X0_length rfl rfl rfl (by decide +kernel) ⟨Nat.le_of_ble_eq_true rfl, Nat.le_of_ble_eq_true rfl⟩) (g_preV (As := []) hPc hKc hDc 0 rfl rfl) rfl rfl hl.1 rfl (lv_room (Nat.le_of_ble_eq_true rfl)) dX1_step_13 ⟨(Nat.le_of_ble_eq_true rfl), (Nat.le_of_ble_eq_true rfl)⟩) hS (fun q _ h => hFc q h) hFc (fun r6 u7 t H5 locs ht hvm hw hB hz1 hk1 hS1 => ?_)
  subst hw
  obtain ⟨hP1, hD1⟩ := g_join (wc := [(r4, .inr (0, [.ref j4, .int (nI L4.length)])), (j4, .inl (cI, 30, .inl f4))]) (wr := [(sh, .inr (1, [.ref r1, .ref r2, .ref r3, .ref r4, .int (nI rc), .int (nI bo), .int lv])), (r1, .inr (0, [.ref j1, .int (nI L1.length)])), (j1, .inl (cI, 30, .inl f1)), (r2, .inr (0, [.ref j2, .int (nI L2.length)])), (j2, .inl (cI, 30, .inl f2)), (r3, .inr (0, [.ref j3, .int (nI L3.length)])), (j3, .inl (cI, 30, .inl f3))]) (w1 := [(r4, .inr (0, [.ref j4, .int (nI L4.length)])), (j4, .inl (cI, 30, .inl f4))]) hP hD [5, 6] [0, 1, 2, 3, 4, 7, 8] rfl rfl (by decide) (by decide) ht hk1 hFc hB
  clear hB hk1 hz1 hvm ht hPc hDc hKc hFc
  clear hP hD hS
  have hP : va_P G vwCl [(sh, .inr (1, [.ref r1, .ref r2, .ref r3, .ref r4, .int (nI rc), .int (nI bo), .int lv])), (r1, .inr (0, [.ref j1, .int (nI L1.length)])), (j1, .inl (cI, 30, .inl f1)), (r2, .inr (0, [.ref j2, .int (nI L2.length)])), (j2, .inl (cI, 30, .inl f2)), (r3, .inr (0, [.ref j3, .int (nI L3.length)])), (j3, .inl (cI, 30, .inl f3)), (r4, .inr (0, [.ref j4, .int (nI L4.length)])), (j4, .inl (cI, 30, .inl f4))] H5 := hP1
  have hD : va_D A [(sh, .inr (1, [.ref r1, .ref r2, .ref r3, .ref r4, .int (nI rc), .int (nI bo), .int lv])), (r1, .inr (0, [.ref j1, .int (nI L1.length)])), (j1, .inl (cI, 30, .inl f1)), (r2, .inr (0, [.ref j2, .int (nI L2.length)])), (j2, .inl (cI, 30, .inl f2)), (r3, .inr (0, [.ref j3, .int (nI L3.length)])), (j3, .inl (cI, 30, .inl f3)), (r4, .inr (0, [.ref j4, .int (nI L4.length)])), (j4, .inl (cI, 30, .inl f4))] := hD1
  have hS := hS1
  clear hP1 hD1 hS1
  refine lv_iload_n hx hb dX1_step_16 rfl (lv_at hl 0 rfl) ?_
  refine g_idiv hx hb dX1_step_17 (by omega) (by omega) (by omega) ?_
  refine g_mmax hx hb (hml.trans hl.1.symm) hown (hts (.methodLink RX1 77 Lib.Math.max.name) (by decide +kernel)) (hts (.static Lib.Math.max.name) (by decide +kernel)) (hts (.initialized "java/lang/Math") (by decide +kernel)) (hts (.code Lib.Math.max.name Lib.Math.max.code 2 (some .int)) (by decide +kernel)) (Nat.le_of_ble_eq_true rfl) (Nat.le_of_ble_eq_true rfl) (Nat.le_of_ble_eq_true rfl) (Nat.le_of_ble_eq_true rfl) (by decide) (Nat.lt_of_le_of_lt (Nat.div_le_self _ _) (by omega)) dX1_step_18 ?_
  have hP9 := hP.sub (ws' := [(sh, .inr (1, [.ref r1, .ref r2, .ref r3, .ref r4, .int (nI rc), .int (nI bo), .int lv])), (r1, .inr (0, [.ref j1, .int (nI L1.length)])), (j1, .inl (cI, 30, .inl f1)), (r2, .inr (0, [.ref j2, .int (nI L2.length)])), (j2, .inl (cI, 30, .inl f2)), (r3, .inr (0, [.ref j3, .int (nI L3.length)])), (j3, .inl (cI, 30, .inl f3)), (r4, .inr (0, [.ref j4, .int (nI L4.length)])), (j4, .inl (cI, 30, .inl f4))]) [0, 1, 2, 3, 4, 5, 6, 7, 8] rfl
  have hD9 := hD.sub (ws' := [(sh, .inr (1, [.ref r1, .ref r2, .ref r3, .ref r4, .int (nI rc), .int (nI bo), .int lv])), (r1, .inr (0, [.ref j1, .int (nI L1.length)])), (j1, .inl (cI, 30, .inl f1)), (r2, .inr (0, [.ref j2, .int (nI L2.length)])), (j2, .inl (cI, 30, .inl f2)), (r3, .inr (0, [.ref j3, .int (nI L3.length)])), (j3, .inl (cI, 30, .inl f3)), (r4, .inr (0, [.ref j4, .int (nI L4.length)])), (j4, .inl (cI, 30, .inl f4))]) [0, 1, 2, 3, 4, 5, 6, 7, 8] (by decide) rfl
  exact W.iret (v := (nI (max 1 (L4.length / L3.length)))) hx hb hr (fun t ht hW => ⟨⟨(nI (max 1 (L4.length / L3.length))), (), rfl, rfl, g_at hP9 hK hD9 ht hW⟩, hS.F ht⟩) hS.2.2 dX1_step_21

set_option maxHeartbeats 4000000 in
set_option maxRecDepth 100000 in
theorem c_X1_step_3 (l : Launch) (G : va_G) (cI : ClassId) (sh r1 r2 r3 r4 j1 j2 j3 j4 : Nat) (f1 f2 f3 f4 : Nat → Int32) (L1 L2 L3 L4 : List Int32) (rc bo : Nat) (lv : Int32) (hR1 : Rw f1 L1) (hR2 : Rw f2 L2) (hR3 : Rw f3 L3) (hR4 : Rw f4 L4) (h0 : 0 < L4.length) (h1 : L3.length ≤ 30) (h2 : L4.length ≤ 30) (sz : Nat) : Met l yX1_step wsX1_step ({ frames := 1, cells := 0, slots := 0, locals := 20 }) (va_Pc [.ref sh, .ref r3, .ref r4] (gpre G [(cI, .int)] [(sh, .inr (1, [.ref r1, .ref r2, .ref r3, .ref r4, .int (nI rc), .int (nI bo), .int lv])), (r1, .inr (0, [.ref j1, .int (nI L1.length)])), (j1, .inl (cI, 30, .inl f1)), (r2, .inr (0, [.ref j2, .int (nI L2.length)])), (j2, .inl (cI, 30, .inl f2)), (r3, .inr (0, [.ref j3, .int (nI L3.length)])), (j3, .inl (cI, 30, .inl f3)), (r4, .inr (0, [.ref j4, .int (nI L4.length)])), (j4, .inl (cI, 30, .inl f4))] sz)) (va_Qi (fun (z : Int32) (_ : Unit) => z = nI (stp L3.length L4.length)) (fun (_ : Unit) t => gat G [(cI, .int)] (va_A [(sh, .inr (1, [.ref r1, .ref r2, .ref r3, .ref r4, .int (nI rc), .int (nI bo), .int lv])), (r1, .inr (0, [.ref j1, .int (nI L1.length)])), (j1, .inl (cI, 30, .inl f1)), (r2, .inr (0, [.ref j2, .int (nI L2.length)])), (j2, .inl (cI, 30, .inl f2)), (r3, .inr (0, [.ref j3, .int (nI L3.length)])), (j3, .inl (cI, 30, .inl f3)), (r4, .inr (0, [.ref j4, .int (nI L4.length)])), (j4, .inl (cI, 30, .inl f4))] sz) [(sh, .inr (1, [.ref r1, .ref r2, .ref r3, .ref r4, .int (nI rc), .int (nI bo), .int lv])), (r1, .inr (0, [.ref j1, .int (nI L1.length)])), (j1, .inl (cI, 30, .inl f1)), (r2, .inr (0, [.ref j2, .int (nI L2.length)])), (j2, .inl (cI, 30, .inl f2)), (r3, .inr (0, [.ref j3, .int (nI L3.length)])), (j3, .inl (cI, 30, .inl f3)), (r4, .inr (0, [.ref j4, .int (nI L4.length)])), (j4, .inl (cI, 30, .inl f4))] t) (va_A [(sh, .inr (1, [.ref r1, .ref r2, .ref r3, .ref r4, .int (nI rc), .int (nI bo), .int lv])), (r1, .inr (0, [.ref j1, .int (nI L1.length)])), (j1, .inl (cI, 30, .inl f1)), (r2, .inr (0, [.ref j2, .int (nI L2.length)])), (j2, .inl (cI, 30, .inl f2)), (r3, .inr (0, [.ref j3, .int (nI L3.length)])), (j3, .inl (cI, 30, .inl f3)), (r4, .inr (0, [.ref j4, .int (nI L4.length)])), (j4, .inl (cI, 30, .inl f4))] sz)) 0 0 (va_A [(sh, .inr (1, [.ref r1, .ref r2, .ref r3, .ref r4, .int (nI rc), .int (nI bo), .int lv])), (r1, .inr (0, [.ref j1, .int (nI L1.length)])), (j1, .inl (cI, 30, .inl f1)), (r2, .inr (0, [.ref j2, .int (nI L2.length)])), (j2, .inl (cI, 30, .inl f2)), (r3, .inr (0, [.ref j3, .int (nI L3.length)])), (j3, .inl (cI, 30, .inl f3)), (r4, .inr (0, [.ref j4, .int (nI L4.length)])), (j4, .inl (cI, 30, .inl f4))] sz) := by
  refine Met.ofW (cc := cX1_step) (maxL := 4) (ret := (some .int)) (by decide) rfl ?_
  intro p e s m args below meth c s₁ B hml hv
  obtain ⟨rfl, hsz, hP, hK, hD0⟩ := hv
  have hx := B.exec
  have hb := B.bytes
  have hr := B.returns
  have hts := atoms_spec (ws := wsX1_step) B.pre
  have hown : s.vm.findClass RX1 = some m.cls := findClass_of_methodNamed B.named
  have hlocks := B.notSynchronized
  subst hsz
  have hD := hD0.self (sz := s.heap.size)
  clear hD0
  generalize hAe : va_A [(sh, .inr (1, [.ref r1, .ref r2, .ref r3, .ref r4, .int (nI rc), .int (nI bo), .int lv])), (r1, .inr (0, [.ref j1, .int (nI L1.length)])), (j1, .inl (cI, 30, .inl f1)), (r2, .inr (0, [.ref j2, .int (nI L2.length)])), (j2, .inl (cI, 30, .inl f2)), (r3, .inr (0, [.ref j3, .int (nI L3.length)])), (j3, .inl (cI, 30, .inl f3)), (r4, .inr (0, [.ref j4, .int (nI L4.length)])), (j4, .inl (cI, 30, .inl f4))] s.heap.size = A at hD ⊢
  have hA : ∀ q : Nat, s.heap.size ≤ q → A q := fun q h => by rw [← hAe]; exact Or.inr h
  have hS : va_S A s.heap s.heap [] := va_S.rf
  have hP : va_P G vwCl [(sh, .inr (1, [.ref r1, .ref r2, .ref r3, .ref r4, .int (nI rc), .int (nI bo), .int lv])), (r1, .inr (0, [.ref j1, .int (nI L1.length)])), (j1, .inl (cI, 30, .inl f1)), (r2, .inr (0, [.ref j2, .int (nI L2.length)])), (j2, .inl (cI, 30, .inl f2)), (r3, .inr (0, [.ref j3, .int (nI L3.length)])), (j3, .inl (cI, 30, .inl f3)), (r4, .inr (0, [.ref j4, .int (nI L4.length)])), (j4, .inl (cI, 30, .inl f4))] s.heap := hP
  have hl := lv_entry ([.ref sh, .ref r3, .ref r4]) (n := 4) (Nat.le_of_ble_eq_true rfl)
  rw [lg_entry_eq]
  generalize (lg_sl ([.ref sh, .ref r3, .ref r4]) ++ List.replicate (4 - (lg_sl ([.ref sh, .ref r3, .ref r4])).length) Slot.unset).toArray = ls at hl ⊢
  have hl : lv_has ls 4 [(0, .ref sh), (1, .ref r3), (2, .ref r4)] := hl
  refine lv_aload_n hx hb dX1_step_0 rfl (lv_at hl 2 rfl) ?_
  have hPc := hP.sub (ws' := [(r4, .inr (0, [.ref j4, .int (nI L4.length)])), (j4, .inl (cI, 30, .inl f4))]) [7, 8] rfl
  have hDc := hD.sub (ws' := [(r4, .inr (0, [.ref j4, .int (nI L4.length)])), (j4, .inl (cI, 30, .inl f4))]) [7, 8] (by decide) rfl
  have hKc := hK.sub (tys' := [(cI, .int)]) [0] rfl
  have hFc := va_free (wc := [(r4, .inr (0, [.ref j4, .int (nI L4.length)])), (j4, .inl (cI, 30, .inl f4))]) hD hS hA [7, 8] rfl
  refine va_calli (va_runV (As := []) (rest := []) ⟨hx, hb, hml, hown, hts⟩ (c_X0_length l G cI r4 j4 f4 L4 hR4 (by omega)  s.heap.size) (cwV 0 hts gX1_step_X0_length rfl rfl rfl (by decide +kernel) ⟨Nat.le_of_ble_eq_true rfl, Nat.le_of_ble_eq_true rfl⟩) (g_preV (As := []) hPc hKc hDc 0 rfl rfl) rfl rfl hl.1 rfl (lv_room (Nat.le_of_ble_eq_true rfl)) dX1_step_1 ⟨(Nat.le_of_ble_eq_true rfl), (Nat.le_of_ble_eq_true rfl)⟩) hS (fun q _ h => hFc q h) hFc (fun r2 u3 t H1 locs ht hvm hw hB hz1 hk1 hS1 => ?_)
  subst hw
  obtain ⟨hP1, hD1⟩ := g_join (wc := [(r4, .inr (0, [.ref j4, .int (nI L4.length)])), (j4, .inl (cI, 30, .inl f4))]) (wr := [(sh, .inr (1, [.ref r1, .ref r2, .ref r3, .ref r4, .int (nI rc), .int (nI bo), .int lv])), (r1, .inr (0, [.ref j1, .int (nI L1.length)])), (j1, .inl (cI, 30, .inl f1)), (r2, .inr (0, [.ref j2, .int (nI L2.length)])), (j2, .inl (cI, 30, .inl f2)), (r3, .inr (0, [.ref j3, .int (nI L3.length)])), (j3, .inl (cI, 30, .inl f3))]) (w1 := [(r4, .inr (0, [.ref j4, .int (nI L4.length)])), (j4, .inl (cI, 30, .inl f4))]) hP hD [7, 8] [0, 1, 2, 3, 4, 5, 6] rfl rfl (by decide) (by decide) ht hk1 hFc hB
  clear hB hk1 hz1 hvm ht hPc hDc hKc hFc
  clear hP hD hS
  have hP : va_P G vwCl [(sh, .inr (1, [.ref r1, .ref r2, .ref r3, .ref r4, .int (nI rc), .int (nI bo), .int lv])), (r1, .inr (0, [.ref j1, .int (nI L1.length)])), (j1, .inl (cI, 30, .inl f1)), (r2, .inr (0, [.ref j2, .int (nI L2.length)])), (j2, .inl (cI, 30, .inl f2)), (r3, .inr (0, [.ref j3, .int (nI L3.length)])), (j3, .inl (cI, 30, .inl f3)), (r4, .inr (0, [.ref j4, .int (nI L4.length)])), (j4, .inl (cI, 30, .inl f4))] H1 := hP1
  have hD : va_D A [(sh, .inr (1, [.ref r1, .ref r2, .ref r3, .ref r4, .int (nI rc), .int (nI bo), .int lv])), (r1, .inr (0, [.ref j1, .int (nI L1.length)])), (j1, .inl (cI, 30, .inl f1)), (r2, .inr (0, [.ref j2, .int (nI L2.length)])), (j2, .inl (cI, 30, .inl f2)), (r3, .inr (0, [.ref j3, .int (nI L3.length)])), (j3, .inl (cI, 30, .inl f3)), (r4, .inr (0, [.ref j4, .int (nI L4.length)])), (j4, .inl (cI, 30, .inl f4))] := hD1
  have hS := hS1
  clear hP1 hD1 hS1
  refine lv_istore_n (lv' := [(3, .int (nI L4.length)), (0, .ref sh), (1, .ref r3), (2, .ref r4)]) hx hb dX1_step_4 rfl hl (by decide) rfl (fun ls hl => ?_)
  refine lv_iload_n hx hb dX1_step_5 rfl (lv_at hl 0 rfl) ?_
  refine g_if_gt (tgt := 11) hx hb dX1_step_6 (by decide) (by omega) (fun c4 => ?_) (fun c4 => False.elim (by omega))
  refine lv_iconst (v := (nI 1)) hx hb dX1_step_11 (by decide +kernel) ?_
  refine lv_aload_n hx hb dX1_step_12 rfl (lv_at hl 2 rfl) ?_
  have hPc := hP.sub (ws' := [(r3, .inr (0, [.ref j3, .int (nI L3.length)])), (j3, .inl (cI, 30, .inl f3))]) [5, 6] rfl
  have hDc := hD.sub (ws' := [(r3, .inr (0, [.ref j3, .int (nI L3.length)])), (j3, .inl (cI, 30, .inl f3))]) [5, 6] (by decide) rfl
  have hKc := hK.sub (tys' := [(cI, .int)]) [0] rfl
  have hFc := va_free (wc := [(r3, .inr (0, [.ref j3, .int (nI L3.length)])), (j3, .inl (cI, 30, .inl f3))]) hD hS hA [5, 6] rfl
  refine va_calli (va_runV (As := []) (rest := [.int (nI 1)]) ⟨hx, hb, hml, hown, hts⟩ (c_X0_length l G cI r3 j3 f3 L3 hR3 (by omega)  H1.size) (cwV 0 hts gX1_step_X0_length rfl rfl rfl (by decide +kernel) ⟨Nat.le_of_ble_eq_true rfl, Nat.le_of_ble_eq_true rfl⟩) (g_preV (As := []) hPc hKc hDc 0 rfl rfl) rfl rfl hl.1 rfl (lv_room (Nat.le_of_ble_eq_true rfl)) dX1_step_13 ⟨(Nat.le_of_ble_eq_true rfl), (Nat.le_of_ble_eq_true rfl)⟩) hS (fun q _ h => hFc q h) hFc (fun r6 u7 t H5 locs ht hvm hw hB hz1 hk1 hS1 => ?_)
  subst hw
  obtain ⟨hP1, hD1⟩ := g_join (wc := [(r3, .inr (0, [.ref j3, .int (nI L3.length)])), (j3, .inl (cI, 30, .inl f3))]) (wr := [(sh, .inr (1, [.ref r1, .ref r2, .ref r3, .ref r4, .int (nI rc), .int (nI bo), .int lv])), (r1, .inr (0, [.ref j1, .int (nI L1.length)])), (j1, .inl (cI, 30, .inl f1)), (r2, .inr (0, [.ref j2, .int (nI L2.length)])), (j2, .inl (cI, 30, .inl f2)), (r4, .inr (0, [.ref j4, .int (nI L4.length)])), (j4, .inl (cI, 30, .inl f4))]) (w1 := [(r3, .inr (0, [.ref j3, .int (nI L3.length)])), (j3, .inl (cI, 30, .inl f3))]) hP hD [5, 6] [0, 1, 2, 3, 4, 7, 8] rfl rfl (by decide) (by decide) ht hk1 hFc hB
  clear hB hk1 hz1 hvm ht hPc hDc hKc hFc
  clear hP hD hS
  have hP : va_P G vwCl [(sh, .inr (1, [.ref r1, .ref r2, .ref r3, .ref r4, .int (nI rc), .int (nI bo), .int lv])), (r1, .inr (0, [.ref j1, .int (nI L1.length)])), (j1, .inl (cI, 30, .inl f1)), (r2, .inr (0, [.ref j2, .int (nI L2.length)])), (j2, .inl (cI, 30, .inl f2)), (r4, .inr (0, [.ref j4, .int (nI L4.length)])), (j4, .inl (cI, 30, .inl f4)), (r3, .inr (0, [.ref j3, .int (nI L3.length)])), (j3, .inl (cI, 30, .inl f3))] H5 := hP1
  have hD : va_D A [(sh, .inr (1, [.ref r1, .ref r2, .ref r3, .ref r4, .int (nI rc), .int (nI bo), .int lv])), (r1, .inr (0, [.ref j1, .int (nI L1.length)])), (j1, .inl (cI, 30, .inl f1)), (r2, .inr (0, [.ref j2, .int (nI L2.length)])), (j2, .inl (cI, 30, .inl f2)), (r4, .inr (0, [.ref j4, .int (nI L4.length)])), (j4, .inl (cI, 30, .inl f4)), (r3, .inr (0, [.ref j3, .int (nI L3.length)])), (j3, .inl (cI, 30, .inl f3))] := hD1
  have hS := hS1
  clear hP1 hD1 hS1
  refine lv_iload_n hx hb dX1_step_16 rfl (lv_at hl 0 rfl) ?_
  refine g_idiv hx hb dX1_step_17 (by omega) (by omega) (by omega) ?_
  refine g_mmax hx hb (hml.trans hl.1.symm) hown (hts (.methodLink RX1 77 Lib.Math.max.name) (by decide +kernel)) (hts (.static Lib.Math.max.name) (by decide +kernel)) (hts (.initialized "java/lang/Math") (by decide +kernel)) (hts (.code Lib.Math.max.name Lib.Math.max.code 2 (some .int)) (by decide +kernel)) (Nat.le_of_ble_eq_true rfl) (Nat.le_of_ble_eq_true rfl) (Nat.le_of_ble_eq_true rfl) (Nat.le_of_ble_eq_true rfl) (by decide) (Nat.lt_of_le_of_lt (Nat.div_le_self _ _) (by omega)) dX1_step_18 ?_
  have hP9 := hP.sub (ws' := [(sh, .inr (1, [.ref r1, .ref r2, .ref r3, .ref r4, .int (nI rc), .int (nI bo), .int lv])), (r1, .inr (0, [.ref j1, .int (nI L1.length)])), (j1, .inl (cI, 30, .inl f1)), (r2, .inr (0, [.ref j2, .int (nI L2.length)])), (j2, .inl (cI, 30, .inl f2)), (r3, .inr (0, [.ref j3, .int (nI L3.length)])), (j3, .inl (cI, 30, .inl f3)), (r4, .inr (0, [.ref j4, .int (nI L4.length)])), (j4, .inl (cI, 30, .inl f4))]) [0, 1, 2, 3, 4, 7, 8, 5, 6] rfl
  have hD9 := hD.sub (ws' := [(sh, .inr (1, [.ref r1, .ref r2, .ref r3, .ref r4, .int (nI rc), .int (nI bo), .int lv])), (r1, .inr (0, [.ref j1, .int (nI L1.length)])), (j1, .inl (cI, 30, .inl f1)), (r2, .inr (0, [.ref j2, .int (nI L2.length)])), (j2, .inl (cI, 30, .inl f2)), (r3, .inr (0, [.ref j3, .int (nI L3.length)])), (j3, .inl (cI, 30, .inl f3)), (r4, .inr (0, [.ref j4, .int (nI L4.length)])), (j4, .inl (cI, 30, .inl f4))]) [0, 1, 2, 3, 4, 7, 8, 5, 6] (by decide) rfl
  exact W.iret (v := (nI (max 1 (L3.length / L4.length)))) hx hb hr (fun t ht hW => ⟨⟨(nI (max 1 (L3.length / L4.length))), (), rfl, rfl, g_at hP9 hK hD9 ht hW⟩, hS.F ht⟩) hS.2.2 dX1_step_21

set_option maxRecDepth 20000 in
theorem iX1_makeRoom_X1 : ∀ w ∈ wsX10, w ∈ wsX1_makeRoom := by decide +kernel
set_option maxHeartbeats 4000000 in
set_option maxRecDepth 100000 in
theorem c_X1_makeRoom (l : Launch) (G : va_G) (cI : ClassId) (sh r1 r2 r3 r4 j1 j2 j3 j4 : Nat) (f1 f2 f3 f4 : Nat → Int32) (L1 L2 L3 L4 : List Int32) (rc bo : Nat) (lv : Int32) (hR1 : Rw f1 L1) (hR2 : Rw f2 L2) (hR3 : Rw f3 L3) (hR4 : Rw f4 L4) (hn : Num rc bo (L1, L2, L3, L4)) (hj : Jrs (L1, L2, L3, L4)) (ff : Bool) (sz : Nat) : Met l yX1_makeRoom wsX1_makeRoom ({ frames := 2, cells := 0, slots := 0, locals := 39 }) (va_Pc [.ref sh, .int (nI ff.toNat)] (gpre G [(cI, .int)] [(sh, .inr (1, [.ref r1, .ref r2, .ref r3, .ref r4, .int (nI rc), .int (nI bo), .int lv])), (r1, .inr (0, [.ref j1, .int (nI L1.length)])), (j1, .inl (cI, 30, .inl f1)), (r2, .inr (0, [.ref j2, .int (nI L2.length)])), (j2, .inl (cI, 30, .inl f2)), (r3, .inr (0, [.ref j3, .int (nI L3.length)])), (j3, .inl (cI, 30, .inl f3)), (r4, .inr (0, [.ref j4, .int (nI L4.length)])), (j4, .inl (cI, 30, .inl f4))] sz)) (va_Qv (fun (u : Q4 × Int32) => u = (sRoom rc bo ff (L1, L2, L3, L4), sRoomX rc bo ff (L1, L2, L3, L4) lv)) (fun (u : Q4 × Int32) t => ∃ f1' f2' f3' f4' : Nat → Int32, Rw f1' u.1.1 ∧ Rw f2' u.1.2.1 ∧ Rw f3' u.1.2.2.1 ∧ Rw f4' u.1.2.2.2 ∧ gat G [(cI, .int)] (va_A [(sh, .inr (1, [.ref r1, .ref r2, .ref r3, .ref r4, .int (nI rc), .int (nI bo), .int lv])), (r1, .inr (0, [.ref j1, .int (nI L1.length)])), (j1, .inl (cI, 30, .inl f1)), (r2, .inr (0, [.ref j2, .int (nI L2.length)])), (j2, .inl (cI, 30, .inl f2)), (r3, .inr (0, [.ref j3, .int (nI L3.length)])), (j3, .inl (cI, 30, .inl f3)), (r4, .inr (0, [.ref j4, .int (nI L4.length)])), (j4, .inl (cI, 30, .inl f4))] sz) [(sh, .inr (1, [.ref r1, .ref r2, .ref r3, .ref r4, .int (nI rc), .int (nI bo), .int u.2])), (r1, .inr (0, [.ref j1, .int (nI u.1.1.length)])), (j1, .inl (cI, 30, .inl f1')), (r2, .inr (0, [.ref j2, .int (nI u.1.2.1.length)])), (j2, .inl (cI, 30, .inl f2')), (r3, .inr (0, [.ref j3, .int (nI u.1.2.2.1.length)])), (j3, .inl (cI, 30, .inl f3')), (r4, .inr (0, [.ref j4, .int (nI u.1.2.2.2.length)])), (j4, .inl (cI, 30, .inl f4'))] t) (va_A [(sh, .inr (1, [.ref r1, .ref r2, .ref r3, .ref r4, .int (nI rc), .int (nI bo), .int lv])), (r1, .inr (0, [.ref j1, .int (nI L1.length)])), (j1, .inl (cI, 30, .inl f1)), (r2, .inr (0, [.ref j2, .int (nI L2.length)])), (j2, .inl (cI, 30, .inl f2)), (r3, .inr (0, [.ref j3, .int (nI L3.length)])), (j3, .inl (cI, 30, .inl f3)), (r4, .inr (0, [.ref j4, .int (nI L4.length)])), (j4, .inl (cI, 30, .inl f4))] sz)) 0 0 (va_A [(sh, .inr (1, [.ref r1, .ref r2, .ref r3, .ref r4, .int (nI rc), .int (nI bo), .int lv])), (r1, .inr (0, [.ref j1, .int (nI L1.length)])), (j1, .inl (cI, 30, .inl f1)), (r2, .inr (0, [.ref j2, .int (nI L2.length)])), (j2, .inl (cI, 30, .inl f2)), (r3, .inr (0, [.ref j3, .int (nI L3.length)])), (j3, .inl (cI, 30, .inl f3)), (r4, .inr (0, [.ref j4, .int (nI L4.length)])), (j4, .inl (cI, 30, .inl f4))] sz) := by
  refine Met.ofW (cc := cX1_makeRoom) (maxL := 7) (ret := none) (by decide) rfl ?_
  intro p e s m args below meth c s₁ B hml hv
  obtain ⟨rfl, hsz, hP, hK, hD0⟩ := hv
  have hx := B.exec
  have hb := B.bytes
  have hr := B.returns
  have hts := atoms_spec (ws := wsX1_makeRoom) B.pre
  have hown : s.vm.findClass RX1 = some m.cls := findClass_of_methodNamed B.named
  have hlocks := B.notSynchronized
  subst hsz
  have hD := hD0.self (sz := s.heap.size)
  clear hD0
  generalize hAe : va_A [(sh, .inr (1, [.ref r1, .ref r2, .ref r3, .ref r4, .int (nI rc), .int (nI bo), .int lv])), (r1, .inr (0, [.ref j1, .int (nI L1.length)])), (j1, .inl (cI, 30, .inl f1)), (r2, .inr (0, [.ref j2, .int (nI L2.length)])), (j2, .inl (cI, 30, .inl f2)), (r3, .inr (0, [.ref j3, .int (nI L3.length)])), (j3, .inl (cI, 30, .inl f3)), (r4, .inr (0, [.ref j4, .int (nI L4.length)])), (j4, .inl (cI, 30, .inl f4))] s.heap.size = A at hD ⊢
  have hA : ∀ q : Nat, s.heap.size ≤ q → A q := fun q h => by rw [← hAe]; exact Or.inr h
  have hS : va_S A s.heap s.heap [] := va_S.rf
  have hP : va_P G vwCl [(sh, .inr (1, [.ref r1, .ref r2, .ref r3, .ref r4, .int (nI rc), .int (nI bo), .int lv])), (r1, .inr (0, [.ref j1, .int (nI L1.length)])), (j1, .inl (cI, 30, .inl f1)), (r2, .inr (0, [.ref j2, .int (nI L2.length)])), (j2, .inl (cI, 30, .inl f2)), (r3, .inr (0, [.ref j3, .int (nI L3.length)])), (j3, .inl (cI, 30, .inl f3)), (r4, .inr (0, [.ref j4, .int (nI L4.length)])), (j4, .inl (cI, 30, .inl f4))] s.heap := hP
  have hl := lv_entry ([.ref sh, .int (nI ff.toNat)]) (n := 7) (Nat.le_of_ble_eq_true rfl)
  rw [lg_entry_eq]
  generalize (lg_sl ([.ref sh, .int (nI ff.toNat)]) ++ List.replicate (7 - (lg_sl ([.ref sh, .int (nI ff.toNat)])).length) Slot.unset).toArray = ls at hl ⊢
  have hl : lv_has ls 7 [(0, .ref sh), (1, .int (nI ff.toNat))] := hl
  obtain ⟨hn1, hn2, hn3, hn4, hn5, hn6⟩ : 1 ≤ rc ∧ rc ≤ 12 ∧ bo ≤ rc ∧ L1.length + L2.length ≤ rc ∧ L1.length + L3.length ≤ rc ∧ L1.length + L2.length + L3.length + L4.length ≤ 2 * rc := hn
  obtain ⟨hj1, hj2, hj3, hj4⟩ : allOk L1 ∧ allOk L2 ∧ allOk L3 ∧ allOk L4 := hj
  have hff0 : ff.toNat < 2 := by cases ff <;> decide
  refine lv_aload_n hx hb dX1_makeRoom_0 rfl (lv_at hl 0 rfl) ?_
  refine va_get (D := G) (ci := 1) (v := .ref r1) (C := RX1) (T := TX1) (N := 7) hx hb hts iX1_makeRoom_X1 hown hK hP 0 rfl rfl 0 (by decide) (hts (.fieldLink RX1 14 "GhostPantry$Shelves" "recent" "LGhostPantry$Row;") (by decide +kernel)) (fun _ h9 => h9) rfl dX1_makeRoom_1 ?_
  have hPc := hP.sub (ws' := [(r1, .inr (0, [.ref j1, .int (nI L1.length)])), (j1, .inl (cI, 30, .inl f1))]) [1, 2] rfl
  have hDc := hD.sub (ws' := [(r1, .inr (0, [.ref j1, .int (nI L1.length)])), (j1, .inl (cI, 30, .inl f1))]) [1, 2] (by decide) rfl
  have hKc := hK.sub (tys' := [(cI, .int)]) [0] rfl
  have hFc := va_free (wc := [(r1, .inr (0, [.ref j1, .int (nI L1.length)])), (j1, .inl (cI, 30, .inl f1))]) hD hS hA [1, 2] rfl
  refine va_calli (va_runV (As := []) (rest := []) ⟨hx, hb, hml, hown, hts⟩ (c_X0_length l G cI r1 j1 f1 L1 hR1 (by omega)  s.heap.size) (cwV 0 hts gX1_makeRoom_X0_length rfl rfl rfl (by decide +kernel) ⟨Nat.le_of_ble_eq_true rfl, Nat.le_of_ble_eq_true rfl⟩) (g_preV (As := []) hPc hKc hDc 0 rfl rfl) rfl rfl hl.1 rfl (lv_room (Nat.le_of_ble_eq_true rfl)) dX1_makeRoom_4 ⟨(Nat.le_of_ble_eq_true rfl), (Nat.le_of_ble_eq_true rfl)⟩) hS (fun q _ h => hFc q h) hFc (fun r2 u3 t H1 locs ht hvm hw hB hz1 hk1 hS1 => ?_)
  subst hw
  obtain ⟨hP1, hD1⟩ := g_join (wc := [(r1, .inr (0, [.ref j1, .int (nI L1.length)])), (j1, .inl (cI, 30, .inl f1))]) (wr := [(sh, .inr (1, [.ref r1, .ref r2, .ref r3, .ref r4, .int (nI rc), .int (nI bo), .int lv])), (r2, .inr (0, [.ref j2, .int (nI L2.length)])), (j2, .inl (cI, 30, .inl f2)), (r3, .inr (0, [.ref j3, .int (nI L3.length)])), (j3, .inl (cI, 30, .inl f3)), (r4, .inr (0, [.ref j4, .int (nI L4.length)])), (j4, .inl (cI, 30, .inl f4))]) (w1 := [(r1, .inr (0, [.ref j1, .int (nI L1.length)])), (j1, .inl (cI, 30, .inl f1))]) hP hD [1, 2] [0, 3, 4, 5, 6, 7, 8] rfl rfl (by decide) (by decide) ht hk1 hFc hB
  clear hB hk1 hz1 hvm ht hPc hDc hKc hFc
  clear hP hD hS
  have hP : va_P G vwCl [(sh, .inr (1, [.ref r1, .ref r2, .ref r3, .ref r4, .int (nI rc), .int (nI bo), .int lv])), (r2, .inr (0, [.ref j2, .int (nI L2.length)])), (j2, .inl (cI, 30, .inl f2)), (r3, .inr (0, [.ref j3, .int (nI L3.length)])), (j3, .inl (cI, 30, .inl f3)), (r4, .inr (0, [.ref j4, .int (nI L4.length)])), (j4, .inl (cI, 30, .inl f4)), (r1, .inr (0, [.ref j1, .int (nI L1.length)])), (j1, .inl (cI, 30, .inl f1))] H1 := hP1
  have hD : va_D A [(sh, .inr (1, [.ref r1, .ref r2, .ref r3, .ref r4, .int (nI rc), .int (nI bo), .int lv])), (r2, .inr (0, [.ref j2, .int (nI L2.length)])), (j2, .inl (cI, 30, .inl f2)), (r3, .inr (0, [.ref j3, .int (nI L3.length)])), (j3, .inl (cI, 30, .inl f3)), (r4, .inr (0, [.ref j4, .int (nI L4.length)])), (j4, .inl (cI, 30, .inl f4)), (r1, .inr (0, [.ref j1, .int (nI L1.length)])), (j1, .inl (cI, 30, .inl f1))] := hD1
  have hS := hS1
  clear hP1 hD1 hS1
  refine lv_istore_n (lv' := [(2, .int (nI L1.length)), (0, .ref sh), (1, .int (nI ff.toNat))]) hx hb dX1_makeRoom_7 rfl hl (by decide) rfl (fun ls hl => ?_)
  refine lv_iload_n hx hb dX1_makeRoom_8 rfl (lv_at hl 0 rfl) ?_
  refine lv_aload_n hx hb dX1_makeRoom_9 rfl (lv_at hl 1 rfl) ?_
  refine va_get (D := G) (ci := 1) (v := .ref r2) (C := RX1) (T := TX1) (N := 7) hx hb hts iX1_makeRoom_X1 hown hK hP 0 rfl rfl 1 (by decide) (hts (.fieldLink RX1 20 "GhostPantry$Shelves" "frequent" "LGhostPantry$Row;") (by decide +kernel)) (fun _ h9 => h9) rfl dX1_makeRoom_10 ?_
  have hPc := hP.sub (ws' := [(r2, .inr (0, [.ref j2, .int (nI L2.length)])), (j2, .inl (cI, 30, .inl f2))]) [1, 2] rfl
  have hDc := hD.sub (ws' := [(r2, .inr (0, [.ref j2, .int (nI L2.length)])), (j2, .inl (cI, 30, .inl f2))]) [1, 2] (by decide) rfl
  have hKc := hK.sub (tys' := [(cI, .int)]) [0] rfl
  have hFc := va_free (wc := [(r2, .inr (0, [.ref j2, .int (nI L2.length)])), (j2, .inl (cI, 30, .inl f2))]) hD hS hA [1, 2] rfl
  refine va_calli (va_runV (As := []) (rest := [.int (nI L1.length)]) ⟨hx, hb, hml, hown, hts⟩ (c_X0_length l G cI r2 j2 f2 L2 hR2 (by omega)  H1.size) (cwV 0 hts gX1_makeRoom_X0_length rfl rfl rfl (by decide +kernel) ⟨Nat.le_of_ble_eq_true rfl, Nat.le_of_ble_eq_true rfl⟩) (g_preV (As := []) hPc hKc hDc 0 rfl rfl) rfl rfl hl.1 rfl (lv_room (Nat.le_of_ble_eq_true rfl)) dX1_makeRoom_13 ⟨(Nat.le_of_ble_eq_true rfl), (Nat.le_of_ble_eq_true rfl)⟩) hS (fun q _ h => hFc q h) hFc (fun r5 u6 t H4 locs ht hvm hw hB hz1 hk1 hS1 => ?_)
  subst hw
  obtain ⟨hP1, hD1⟩ := g_join (wc := [(r2, .inr (0, [.ref j2, .int (nI L2.length)])), (j2, .inl (cI, 30, .inl f2))]) (wr := [(sh, .inr (1, [.ref r1, .ref r2, .ref r3, .ref r4, .int (nI rc), .int (nI bo), .int lv])), (r3, .inr (0, [.ref j3, .int (nI L3.length)])), (j3, .inl (cI, 30, .inl f3)), (r4, .inr (0, [.ref j4, .int (nI L4.length)])), (j4, .inl (cI, 30, .inl f4)), (r1, .inr (0, [.ref j1, .int (nI L1.length)])), (j1, .inl (cI, 30, .inl f1))]) (w1 := [(r2, .inr (0, [.ref j2, .int (nI L2.length)])), (j2, .inl (cI, 30, .inl f2))]) hP hD [1, 2] [0, 3, 4, 5, 6, 7, 8] rfl rfl (by decide) (by decide) ht hk1 hFc hB
  clear hB hk1 hz1 hvm ht hPc hDc hKc hFc
  clear hP hD hS
  have hP : va_P G vwCl [(sh, .inr (1, [.ref r1, .ref r2, .ref r3, .ref r4, .int (nI rc), .int (nI bo), .int lv])), (r3, .inr (0, [.ref j3, .int (nI L3.length)])), (j3, .inl (cI, 30, .inl f3)), (r4, .inr (0, [.ref j4, .int (nI L4.length)])), (j4, .inl (cI, 30, .inl f4)), (r1, .inr (0, [.ref j1, .int (nI L1.length)])), (j1, .inl (cI, 30, .inl f1)), (r2, .inr (0, [.ref j2, .int (nI L2.length)])), (j2, .inl (cI, 30, .inl f2))] H4 := hP1
  have hD : va_D A [(sh, .inr (1, [.ref r1, .ref r2, .ref r3, .ref r4, .int (nI rc), .int (nI bo), .int lv])), (r3, .inr (0, [.ref j3, .int (nI L3.length)])), (j3, .inl (cI, 30, .inl f3)), (r4, .inr (0, [.ref j4, .int (nI L4.length)])), (j4, .inl (cI, 30, .inl f4)), (r1, .inr (0, [.ref j1, .int (nI L1.length)])), (j1, .inl (cI, 30, .inl f1)), (r2, .inr (0, [.ref j2, .int (nI L2.length)])), (j2, .inl (cI, 30, .inl f2))] := hD1
  have hS := hS1
  clear hP1 hD1 hS1
  refine g_iadd hx hb dX1_makeRoom_16 ?_
  refine lv_aload_n hx hb dX1_makeRoom_17 rfl (lv_at hl 1 rfl) ?_
  refine va_get (D := G) (ci := 1) (v := .int (nI rc)) (C := RX1) (T := TX1) (N := 7) hx hb hts iX1_makeRoom_X1 hown hK hP 0 rfl rfl 4 (by decide) (hts (.fieldLink RX1 29 "GhostPantry$Shelves" "room" "I") (by decide +kernel)) (fun _ h9 => h9) rfl dX1_makeRoom_18 ?_
  refine g_icmp_eq (tgt := 25) hx hb dX1_makeRoom_21 (by decide) (by omega) (by omega) (fun c7 => ?_) (fun c7 => ?_)
  · refine lv_iload_n hx hb dX1_makeRoom_25 rfl (lv_at hl 0 rfl) ?_
    refine lv_aload_n hx hb dX1_makeRoom_26 rfl (lv_at hl 1 rfl) ?_
    refine va_get (D := G) (ci := 1) (v := .int (nI bo)) (C := RX1) (T := TX1) (N := 7) hx hb hts iX1_makeRoom_X1 hown hK hP 0 rfl rfl 5 (by decide) (hts (.fieldLink RX1 33 "GhostPantry$Shelves" "border" "I") (by decide +kernel)) (fun _ h9 => h9) rfl dX1_makeRoom_27 ?_
    refine g_icmp_gt (tgt := 45) hx hb dX1_makeRoom_30 (by decide) (by omega) (by omega) (fun c8 => ?_) (fun c8 => ?_)
    · refine lv_iconst (v := (nI 1)) hx hb dX1_makeRoom_45 (by decide +kernel) ?_
      refine lv_goto (tgt := 50) hx hb dX1_makeRoom_46 (by decide) ?_
      refine lv_istore_n (lv' := [(3, .int (nI 1)), (2, .int (nI L1.length)), (0, .ref sh), (1, .int (nI ff.toNat))]) hx hb dX1_makeRoom_50 rfl hl (by decide) rfl (fun ls hl => ?_)
      refine lv_iload_n hx hb dX1_makeRoom_51 rfl (lv_at hl 1 rfl) ?_
      refine g_if_le (tgt := 59) hx hb dX1_makeRoom_52 (by decide) (by omega) (fun c9 => False.elim (by omega)) (fun c9 => ?_)
      refine lv_iload_n hx hb dX1_makeRoom_55 rfl (lv_at hl 0 rfl) ?_
      refine g_if_ne (tgt := 69) hx hb dX1_makeRoom_56 (by decide) (by decide) (fun c10 => ?_) (fun c10 => False.elim (by omega))
      refine lv_iconst (v := (nI 1)) hx hb dX1_makeRoom_69 (by decide +kernel) ?_
      refine lv_goto (tgt := 74) hx hb dX1_makeRoom_70 (by decide) ?_
      refine lv_istore (lv' := [(4, .int (nI 1)), (3, .int (nI 1)), (2, .int (nI L1.length)), (0, .ref sh), (1, .int (nI ff.toNat))]) hx hb dX1_makeRoom_74 hl (by decide) rfl (fun ls hl => ?_)
      refine lv_iload hx hb dX1_makeRoom_76 (lv_at hl 0 rfl) ?_
      refine g_if_eq (tgt := 88) hx hb dX1_makeRoom_78 (by decide) (by decide) (fun c11 => False.elim (by omega)) (fun c11 => ?_)
      refine lv_aload_n hx hb dX1_makeRoom_81 rfl (lv_at hl 3 rfl) ?_
      refine va_get (D := G) (ci := 1) (v := .ref r1) (C := RX1) (T := TX1) (N := 7) hx hb hts iX1_makeRoom_X1 hown hK hP 0 rfl rfl 0 (by decide) (hts (.fieldLink RX1 14 "GhostPantry$Shelves" "recent" "LGhostPantry$Row;") (by decide +kernel)) (fun _ h9 => h9) rfl dX1_makeRoom_82 ?_
      refine lv_goto (tgt := 92) hx hb dX1_makeRoom_85 (by decide) ?_
      refine lv_astore (lv' := [(5, .ref r1), (4, .int (nI 1)), (3, .int (nI 1)), (2, .int (nI L1.length)), (0, .ref sh), (1, .int (nI ff.toNat))]) hx hb dX1_makeRoom_92 hl (by decide) rfl (fun ls hl => ?_)
      refine lv_iload hx hb dX1_makeRoom_94 (lv_at hl 1 rfl) ?_
      refine g_if_eq (tgt := 106) hx hb dX1_makeRoom_96 (by decide) (by decide) (fun c12 => False.elim (by omega)) (fun c12 => ?_)
      refine lv_aload_n hx hb dX1_makeRoom_99 rfl (lv_at hl 4 rfl) ?_
      refine va_get (D := G) (ci := 1) (v := .ref r3) (C := RX1) (T := TX1) (N := 7) hx hb hts iX1_makeRoom_X1 hown hK hP 0 rfl rfl 2 (by decide) (hts (.fieldLink RX1 23 "GhostPantry$Shelves" "recentGhosts" "LGhostPantry$Row;") (by decide +kernel)) (fun _ h9 => h9) rfl dX1_makeRoom_100 ?_
      refine lv_goto (tgt := 110) hx hb dX1_makeRoom_103 (by decide) ?_
      refine lv_astore (lv' := [(6, .ref r3), (5, .ref r1), (4, .int (nI 1)), (3, .int (nI 1)), (2, .int (nI L1.length)), (0, .ref sh), (1, .int (nI ff.toNat))]) hx hb dX1_makeRoom_110 hl (by decide) rfl (fun ls hl => ?_)
      refine lv_aload_n hx hb dX1_makeRoom_112 rfl (lv_at hl 5 rfl) ?_
      refine lv_aload hx hb dX1_makeRoom_113 (lv_at hl 1 rfl) ?_
      have hPc := hP.sub (ws' := [(r1, .inr (0, [.ref j1, .int (nI L1.length)])), (j1, .inl (cI, 30, .inl f1))]) [5, 6] rfl
      have hDc := hD.sub (ws' := [(r1, .inr (0, [.ref j1, .int (nI L1.length)])), (j1, .inl (cI, 30, .inl f1))]) [5, 6] (by decide) rfl
      have hKc := hK.sub (tys' := [(cI, .int)]) [0] rfl
      have hFc := va_free (wc := [(r1, .inr (0, [.ref j1, .int (nI L1.length)])), (j1, .inl (cI, 30, .inl f1))]) hD hS hA [5, 6] rfl
      refine va_calli (va_runV (As := []) (rest := [.ref sh]) ⟨hx, hb, hml, hown, hts⟩ (c_X0_takeLast l G cI r1 j1 f1 L1 hR1 (by omega) (by omega) H4.size) (cwV 0 hts gX1_makeRoom_X0_takeLast rfl rfl rfl (by decide +kernel) ⟨Nat.le_of_ble_eq_true rfl, Nat.le_of_ble_eq_true rfl⟩) (g_preV (As := []) hPc hKc hDc 0 rfl rfl) rfl rfl hl.1 rfl (lv_room (Nat.le_of_ble_eq_true rfl)) dX1_makeRoom_115 ⟨(Nat.le_of_ble_eq_true rfl), (Nat.le_of_ble_eq_true rfl)⟩) hS (fun q _ h => hFc q h) hFc (fun r16 u17 t H15 locs ht hvm hw hB hz1 hk1 hS1 => ?_)
      subst hw
      obtain ⟨f13, hf14, hB⟩ := hB
      obtain ⟨hP1, hD1⟩ := g_join (wc := [(r1, .inr (0, [.ref j1, .int (nI L1.length)])), (j1, .inl (cI, 30, .inl f1))]) (wr := [(sh, .inr (1, [.ref r1, .ref r2, .ref r3, .ref r4, .int (nI rc), .int (nI bo), .int lv])), (r3, .inr (0, [.ref j3, .int (nI L3.length)])), (j3, .inl (cI, 30, .inl f3)), (r4, .inr (0, [.ref j4, .int (nI L4.length)])), (j4, .inl (cI, 30, .inl f4)), (r2, .inr (0, [.ref j2, .int (nI L2.length)])), (j2, .inl (cI, 30, .inl f2))]) (w1 := [(r1, .inr (0, [.ref j1, .int (nI L1.dropLast.length)])), (j1, .inl (cI, 30, .inl f13))]) hP hD [5, 6] [0, 1, 2, 3, 4, 7, 8] rfl rfl (by decide) (by decide) ht hk1 hFc hB
      clear hB hk1 hz1 hvm ht hPc hDc hKc hFc
      clear hP hD hS
      have hP : va_P G vwCl [(sh, .inr (1, [.ref r1, .ref r2, .ref r3, .ref r4, .int (nI rc), .int (nI bo), .int lv])), (r3, .inr (0, [.ref j3, .int (nI L3.length)])), (j3, .inl (cI, 30, .inl f3)), (r4, .inr (0, [.ref j4, .int (nI L4.length)])), (j4, .inl (cI, 30, .inl f4)), (r2, .inr (0, [.ref j2, .int (nI L2.length)])), (j2, .inl (cI, 30, .inl f2)), (r1, .inr (0, [.ref j1, .int (nI L1.dropLast.length)])), (j1, .inl (cI, 30, .inl f13))] H15 := hP1
      have hD : va_D A [(sh, .inr (1, [.ref r1, .ref r2, .ref r3, .ref r4, .int (nI rc), .int (nI bo), .int lv])), (r3, .inr (0, [.ref j3, .int (nI L3.length)])), (j3, .inl (cI, 30, .inl f3)), (r4, .inr (0, [.ref j4, .int (nI L4.length)])), (j4, .inl (cI, 30, .inl f4)), (r2, .inr (0, [.ref j2, .int (nI L2.length)])), (j2, .inl (cI, 30, .inl f2)), (r1, .inr (0, [.ref j1, .int (nI L1.dropLast.length)])), (j1, .inl (cI, 30, .inl f13))] := hD1
      have hS := hS1
      clear hP1 hD1 hS1
      refine va_put (D := G) (ci := 1) (v := .int (lst L1)) (ty := .int) (C := RX1) (T := TX1) (N := 7) hx hb hts iX1_makeRoom_X1 tyX1 tyX1_ok nmX1 hown hK hP hD hS 0 rfl rfl 6 (by decide) (hts (.fieldLink RX1 36 "GhostPantry$Shelves" "leaver" "I") (by decide +kernel)) (fun _ h9 => h9) rfl (by decide +kernel) rfl rfl (Nat.le_of_ble_eq_true rfl) dX1_makeRoom_118 (fun H18 locs hP1 hD1 hS1 => ?_)
      clear hP hD hS
      have hP : va_P G vwCl [(sh, .inr (1, [.ref r1, .ref r2, .ref r3, .ref r4, .int (nI rc), .int (nI bo), .int (lst L1)])), (r3, .inr (0, [.ref j3, .int (nI L3.length)])), (j3, .inl (cI, 30, .inl f3)), (r4, .inr (0, [.ref j4, .int (nI L4.length)])), (j4, .inl (cI, 30, .inl f4)), (r2, .inr (0, [.ref j2, .int (nI L2.length)])), (j2, .inl (cI, 30, .inl f2)), (r1, .inr (0, [.ref j1, .int (nI L1.dropLast.length)])), (j1, .inl (cI, 30, .inl f13))] H18 := hP1
      have hD : va_D A [(sh, .inr (1, [.ref r1, .ref r2, .ref r3, .ref r4, .int (nI rc), .int (nI bo), .int (lst L1)])), (r3, .inr (0, [.ref j3, .int (nI L3.length)])), (j3, .inl (cI, 30, .inl f3)), (r4, .inr (0, [.ref j4, .int (nI L4.length)])), (j4, .inl (cI, 30, .inl f4)), (r2, .inr (0, [.ref j2, .int (nI L2.length)])), (j2, .inl (cI, 30, .inl f2)), (r1, .inr (0, [.ref j1, .int (nI L1.dropLast.length)])), (j1, .inl (cI, 30, .inl f13))] := hD1
      have hS := hS1
      clear hP1 hD1 hS1
      refine lv_aload_n hx hb dX1_makeRoom_121 rfl (lv_at hl 5 rfl) ?_
      refine va_get (D := G) (ci := 1) (v := .int (lst L1)) (C := RX1) (T := TX1) (N := 7) hx hb hts iX1_makeRoom_X1 hown hK hP 0 rfl rfl 6 (by decide) (hts (.fieldLink RX1 36 "GhostPantry$Shelves" "leaver" "I") (by decide +kernel)) (fun _ h9 => h9) rfl dX1_makeRoom_122 ?_
      refine lv_iconst (v := (-1)) hx hb dX1_makeRoom_125 (by decide +kernel) ?_
      refine lv_icmp_eq (tgt := 138) hx hb dX1_makeRoom_126 (by decide) (fun c19 => False.elim (by exact ok_ne (ok_lst hj1 (by omega)) c19)) (fun c19 => ?_)
      refine lv_aload hx hb dX1_makeRoom_129 (lv_at hl 0 rfl) ?_
      refine lv_aload_n hx hb dX1_makeRoom_131 rfl (lv_at hl 5 rfl) ?_
      refine va_get (D := G) (ci := 1) (v := .int (lst L1)) (C := RX1) (T := TX1) (N := 7) hx hb hts iX1_makeRoom_X1 hown hK hP 0 rfl rfl 6 (by decide) (hts (.fieldLink RX1 36 "GhostPantry$Shelves" "leaver" "I") (by decide +kernel)) (fun _ h9 => h9) rfl dX1_makeRoom_132 ?_
      have hPc := hP.sub (ws' := [(r3, .inr (0, [.ref j3, .int (nI L3.length)])), (j3, .inl (cI, 30, .inl f3))]) [1, 2] rfl
      have hDc := hD.sub (ws' := [(r3, .inr (0, [.ref j3, .int (nI L3.length)])), (j3, .inl (cI, 30, .inl f3))]) [1, 2] (by decide) rfl
      have hKc := hK.sub (tys' := [(cI, .int)]) [0] rfl
      have hFc := va_free (wc := [(r3, .inr (0, [.ref j3, .int (nI L3.length)])), (j3, .inl (cI, 30, .inl f3))]) hD hS hA [1, 2] rfl
      refine va_callv (va_runV (As := [.int (lst L1)]) (rest := []) ⟨hx, hb, hml, hown, hts⟩ (c_X0_putFirst l G cI r3 j3 f3 L3 hR3 (by omega) (lst L1) (by omega) H18.size) (cwV 1 hts gX1_makeRoom_X0_putFirst rfl rfl rfl (by decide +kernel) ⟨Nat.le_of_ble_eq_true rfl, Nat.le_of_ble_eq_true rfl⟩) (g_preV (As := [.int (lst L1)]) hPc hKc hDc 0 rfl rfl) rfl rfl hl.1 rfl (lv_room (Nat.le_of_ble_eq_true rfl)) dX1_makeRoom_135 ⟨(Nat.le_of_ble_eq_true rfl), (Nat.le_of_ble_eq_true rfl)⟩) hS (fun q _ h => hFc q h) hFc (fun u24 t H22 locs ht hvm hw hB hz1 hk1 hS1 => ?_)
      obtain ⟨f20, hf21, hB⟩ := hB
      obtain ⟨hP1, hD1⟩ := g_join (wc := [(r3, .inr (0, [.ref j3, .int (nI L3.length)])), (j3, .inl (cI, 30, .inl f3))]) (wr := [(sh, .inr (1, [.ref r1, .ref r2, .ref r3, .ref r4, .int (nI rc), .int (nI bo), .int (lst L1)])), (r4, .inr (0, [.ref j4, .int (nI L4.length)])), (j4, .inl (cI, 30, .inl f4)), (r2, .inr (0, [.ref j2, .int (nI L2.length)])), (j2, .inl (cI, 30, .inl f2)), (r1, .inr (0, [.ref j1, .int (nI L1.dropLast.length)])), (j1, .inl (cI, 30, .inl f13))]) (w1 := [(r3, .inr (0, [.ref j3, .int (nI (((lst L1) :: L3).length))])), (j3, .inl (cI, 30, .inl f20))]) hP hD [1, 2] [0, 3, 4, 5, 6, 7, 8] rfl rfl (by decide) (by decide) ht hk1 hFc hB
      clear hB hk1 hz1 hvm ht hPc hDc hKc hFc
      clear hP hD hS
      have hP : va_P G vwCl [(sh, .inr (1, [.ref r1, .ref r2, .ref r3, .ref r4, .int (nI rc), .int (nI bo), .int (lst L1)])), (r4, .inr (0, [.ref j4, .int (nI L4.length)])), (j4, .inl (cI, 30, .inl f4)), (r2, .inr (0, [.ref j2, .int (nI L2.length)])), (j2, .inl (cI, 30, .inl f2)), (r1, .inr (0, [.ref j1, .int (nI L1.dropLast.length)])), (j1, .inl (cI, 30, .inl f13)), (r3, .inr (0, [.ref j3, .int (nI (((lst L1) :: L3).length))])), (j3, .inl (cI, 30, .inl f20))] H22 := hP1
      have hD : va_D A [(sh, .inr (1, [.ref r1, .ref r2, .ref r3, .ref r4, .int (nI rc), .int (nI bo), .int (lst L1)])), (r4, .inr (0, [.ref j4, .int (nI L4.length)])), (j4, .inl (cI, 30, .inl f4)), (r2, .inr (0, [.ref j2, .int (nI L2.length)])), (j2, .inl (cI, 30, .inl f2)), (r1, .inr (0, [.ref j1, .int (nI L1.dropLast.length)])), (j1, .inl (cI, 30, .inl f13)), (r3, .inr (0, [.ref j3, .int (nI (((lst L1) :: L3).length))])), (j3, .inl (cI, 30, .inl f20))] := hD1
      have hS := hS1
      clear hP1 hD1 hS1
      have hP9 := hP.sub (ws' := [(sh, .inr (1, [.ref r1, .ref r2, .ref r3, .ref r4, .int (nI rc), .int (nI bo), .int (lst L1)])), (r1, .inr (0, [.ref j1, .int (nI L1.dropLast.length)])), (j1, .inl (cI, 30, .inl f13)), (r2, .inr (0, [.ref j2, .int (nI L2.length)])), (j2, .inl (cI, 30, .inl f2)), (r3, .inr (0, [.ref j3, .int (nI (((lst L1) :: L3).length))])), (j3, .inl (cI, 30, .inl f20)), (r4, .inr (0, [.ref j4, .int (nI L4.length)])), (j4, .inl (cI, 30, .inl f4))]) [0, 5, 6, 3, 4, 7, 8, 1, 2] rfl
      have hD9 := hD.sub (ws' := [(sh, .inr (1, [.ref r1, .ref r2, .ref r3, .ref r4, .int (nI rc), .int (nI bo), .int (lst L1)])), (r1, .inr (0, [.ref j1, .int (nI L1.dropLast.length)])), (j1, .inl (cI, 30, .inl f13)), (r2, .inr (0, [.ref j2, .int (nI L2.length)])), (j2, .inl (cI, 30, .inl f2)), (r3, .inr (0, [.ref j3, .int (nI (((lst L1) :: L3).length))])), (j3, .inl (cI, 30, .inl f20)), (r4, .inr (0, [.ref j4, .int (nI L4.length)])), (j4, .inl (cI, 30, .inl f4))]) [0, 5, 6, 3, 4, 7, 8, 1, 2] (by decide) rfl
      exact W.vret hx hb hr (fun t ht hW => ⟨⟨((L1.dropLast, L2, ((lst L1) :: L3), L4), (lst L1)), rfl, (room_b (by omega) (by omega) (Or.inl (Or.inl (by omega))) lv), _, _, _, _, hf14, hR2, hf21, hR4, g_at hP9 hK hD9 ht hW⟩, hS.F ht⟩) hS.2.2 dX1_makeRoom_138
    · refine lv_iload_n hx hb dX1_makeRoom_33 rfl (lv_at hl 2 rfl) ?_
      refine g_if_eq (tgt := 49) hx hb dX1_makeRoom_34 (by decide) (by omega) (fun c25 => ?_) (fun c25 => ?_)
      · have hff : ff = false := ff_f c25
        refine lv_iconst (v := (nI 0)) hx hb dX1_makeRoom_49 (by decide +kernel) ?_
        refine lv_istore_n (lv' := [(3, .int (nI 0)), (2, .int (nI L1.length)), (0, .ref sh), (1, .int (nI ff.toNat))]) hx hb dX1_makeRoom_50 rfl hl (by decide) rfl (fun ls hl => ?_)
        refine lv_iload_n hx hb dX1_makeRoom_51 rfl (lv_at hl 1 rfl) ?_
        refine g_if_le (tgt := 59) hx hb dX1_makeRoom_52 (by decide) (by omega) (fun c26 => ?_) (fun c26 => ?_)
        · refine lv_aload_n hx hb dX1_makeRoom_59 rfl (lv_at hl 2 rfl) ?_
          refine va_get (D := G) (ci := 1) (v := .ref r2) (C := RX1) (T := TX1) (N := 7) hx hb hts iX1_makeRoom_X1 hown hK hP 0 rfl rfl 1 (by decide) (hts (.fieldLink RX1 20 "GhostPantry$Shelves" "frequent" "LGhostPantry$Row;") (by decide +kernel)) (fun _ h9 => h9) rfl dX1_makeRoom_60 ?_
          have hPc := hP.sub (ws' := [(r2, .inr (0, [.ref j2, .int (nI L2.length)])), (j2, .inl (cI, 30, .inl f2))]) [7, 8] rfl
          have hDc := hD.sub (ws' := [(r2, .inr (0, [.ref j2, .int (nI L2.length)])), (j2, .inl (cI, 30, .inl f2))]) [7, 8] (by decide) rfl
          have hKc := hK.sub (tys' := [(cI, .int)]) [0] rfl
          have hFc := va_free (wc := [(r2, .inr (0, [.ref j2, .int (nI L2.length)])), (j2, .inl (cI, 30, .inl f2))]) hD hS hA [7, 8] rfl
          refine va_calli (va_runV (As := []) (rest := []) ⟨hx, hb, hml, hown, hts⟩ (c_X0_length l G cI r2 j2 f2 L2 hR2 (by omega)  H4.size) (cwV 0 hts gX1_makeRoom_X0_length rfl rfl rfl (by decide +kernel) ⟨Nat.le_of_ble_eq_true rfl, Nat.le_of_ble_eq_true rfl⟩) (g_preV (As := []) hPc hKc hDc 0 rfl rfl) rfl rfl hl.1 rfl (lv_room (Nat.le_of_ble_eq_true rfl)) dX1_makeRoom_63 ⟨(Nat.le_of_ble_eq_true rfl), (Nat.le_of_ble_eq_true rfl)⟩) hS (fun q _ h => hFc q h) hFc (fun r28 u29 t H27 locs ht hvm hw hB hz1 hk1 hS1 => ?_)
          subst hw
          obtain ⟨hP1, hD1⟩ := g_join (wc := [(r2, .inr (0, [.ref j2, .int (nI L2.length)])), (j2, .inl (cI, 30, .inl f2))]) (wr := [(sh, .inr (1, [.ref r1, .ref r2, .ref r3, .ref r4, .int (nI rc), .int (nI bo), .int lv])), (r3, .inr (0, [.ref j3, .int (nI L3.length)])), (j3, .inl (cI, 30, .inl f3)), (r4, .inr (0, [.ref j4, .int (nI L4.length)])), (j4, .inl (cI, 30, .inl f4)), (r1, .inr (0, [.ref j1, .int (nI L1.length)])), (j1, .inl (cI, 30, .inl f1))]) (w1 := [(r2, .inr (0, [.ref j2, .int (nI L2.length)])), (j2, .inl (cI, 30, .inl f2))]) hP hD [7, 8] [0, 1, 2, 3, 4, 5, 6] rfl rfl (by decide) (by decide) ht hk1 hFc hB
          clear hB hk1 hz1 hvm ht hPc hDc hKc hFc
          clear hP hD hS
          have hP : va_P G vwCl [(sh, .inr (1, [.ref r1, .ref r2, .ref r3, .ref r4, .int (nI rc), .int (nI bo), .int lv])), (r3, .inr (0, [.ref j3, .int (nI L3.length)])), (j3, .inl (cI, 30, .inl f3)), (r4, .inr (0, [.ref j4, .int (nI L4.length)])), (j4, .inl (cI, 30, .inl f4)), (r1, .inr (0, [.ref j1, .int (nI L1.length)])), (j1, .inl (cI, 30, .inl f1)), (r2, .inr (0, [.ref j2, .int (nI L2.length)])), (j2, .inl (cI, 30, .inl f2))] H27 := hP1
          have hD : va_D A [(sh, .inr (1, [.ref r1, .ref r2, .ref r3, .ref r4, .int (nI rc), .int (nI bo), .int lv])), (r3, .inr (0, [.ref j3, .int (nI L3.length)])), (j3, .inl (cI, 30, .inl f3)), (r4, .inr (0, [.ref j4, .int (nI L4.length)])), (j4, .inl (cI, 30, .inl f4)), (r1, .inr (0, [.ref j1, .int (nI L1.length)])), (j1, .inl (cI, 30, .inl f1)), (r2, .inr (0, [.ref j2, .int (nI L2.length)])), (j2, .inl (cI, 30, .inl f2))] := hD1
          have hS := hS1
          clear hP1 hD1 hS1
          refine g_if_ne (tgt := 73) hx hb dX1_makeRoom_66 (by decide) (by omega) (fun c30 => ?_) (fun c30 => False.elim (by omega))
          refine lv_iconst (v := (nI 0)) hx hb dX1_makeRoom_73 (by decide +kernel) ?_
          refine lv_istore (lv' := [(4, .int (nI 0)), (3, .int (nI 0)), (2, .int (nI L1.length)), (0, .ref sh), (1, .int (nI ff.toNat))]) hx hb dX1_makeRoom_74 hl (by decide) rfl (fun ls hl => ?_)
          refine lv_iload hx hb dX1_makeRoom_76 (lv_at hl 0 rfl) ?_
          refine g_if_eq (tgt := 88) hx hb dX1_makeRoom_78 (by decide) (by decide) (fun c31 => ?_) (fun c31 => False.elim (by omega))
          refine lv_aload_n hx hb dX1_makeRoom_88 rfl (lv_at hl 3 rfl) ?_
          refine va_get (D := G) (ci := 1) (v := .ref r2) (C := RX1) (T := TX1) (N := 7) hx hb hts iX1_makeRoom_X1 hown hK hP 0 rfl rfl 1 (by decide) (hts (.fieldLink RX1 20 "GhostPantry$Shelves" "frequent" "LGhostPantry$Row;") (by decide +kernel)) (fun _ h9 => h9) rfl dX1_makeRoom_89 ?_
          refine lv_astore (lv' := [(5, .ref r2), (4, .int (nI 0)), (3, .int (nI 0)), (2, .int (nI L1.length)), (0, .ref sh), (1, .int (nI ff.toNat))]) hx hb dX1_makeRoom_92 hl (by decide) rfl (fun ls hl => ?_)
          refine lv_iload hx hb dX1_makeRoom_94 (lv_at hl 1 rfl) ?_
          refine g_if_eq (tgt := 106) hx hb dX1_makeRoom_96 (by decide) (by decide) (fun c32 => ?_) (fun c32 => False.elim (by omega))
          refine lv_aload_n hx hb dX1_makeRoom_106 rfl (lv_at hl 4 rfl) ?_
          refine va_get (D := G) (ci := 1) (v := .ref r4) (C := RX1) (T := TX1) (N := 7) hx hb hts iX1_makeRoom_X1 hown hK hP 0 rfl rfl 3 (by decide) (hts (.fieldLink RX1 26 "GhostPantry$Shelves" "frequentGhosts" "LGhostPantry$Row;") (by decide +kernel)) (fun _ h9 => h9) rfl dX1_makeRoom_107 ?_
          refine lv_astore (lv' := [(6, .ref r4), (5, .ref r2), (4, .int (nI 0)), (3, .int (nI 0)), (2, .int (nI L1.length)), (0, .ref sh), (1, .int (nI ff.toNat))]) hx hb dX1_makeRoom_110 hl (by decide) rfl (fun ls hl => ?_)
          refine lv_aload_n hx hb dX1_makeRoom_112 rfl (lv_at hl 5 rfl) ?_
          refine lv_aload hx hb dX1_makeRoom_113 (lv_at hl 1 rfl) ?_
          have hPc := hP.sub (ws' := [(r2, .inr (0, [.ref j2, .int (nI L2.length)])), (j2, .inl (cI, 30, .inl f2))]) [7, 8] rfl
          have hDc := hD.sub (ws' := [(r2, .inr (0, [.ref j2, .int (nI L2.length)])), (j2, .inl (cI, 30, .inl f2))]) [7, 8] (by decide) rfl
          have hKc := hK.sub (tys' := [(cI, .int)]) [0] rfl
          have hFc := va_free (wc := [(r2, .inr (0, [.ref j2, .int (nI L2.length)])), (j2, .inl (cI, 30, .inl f2))]) hD hS hA [7, 8] rfl
          refine va_calli (va_runV (As := []) (rest := [.ref sh]) ⟨hx, hb, hml, hown, hts⟩ (c_X0_takeLast l G cI r2 j2 f2 L2 hR2 (by omega) (by omega) H27.size) (cwV 0 hts gX1_makeRoom_X0_takeLast rfl rfl rfl (by decide +kernel) ⟨Nat.le_of_ble_eq_true rfl, Nat.le_of_ble_eq_true rfl⟩) (g_preV (As := []) hPc hKc hDc 0 rfl rfl) rfl rfl hl.1 rfl (lv_room (Nat.le_of_ble_eq_true rfl)) dX1_makeRoom_115 ⟨(Nat.le_of_ble_eq_true rfl), (Nat.le_of_ble_eq_true rfl)⟩) hS (fun q _ h => hFc q h) hFc (fun r36 u37 t H35 locs ht hvm hw hB hz1 hk1 hS1 => ?_)
          subst hw
          obtain ⟨f33, hf34, hB⟩ := hB
          obtain ⟨hP1, hD1⟩ := g_join (wc := [(r2, .inr (0, [.ref j2, .int (nI L2.length)])), (j2, .inl (cI, 30, .inl f2))]) (wr := [(sh, .inr (1, [.ref r1, .ref r2, .ref r3, .ref r4, .int (nI rc), .int (nI bo), .int lv])), (r3, .inr (0, [.ref j3, .int (nI L3.length)])), (j3, .inl (cI, 30, .inl f3)), (r4, .inr (0, [.ref j4, .int (nI L4.length)])), (j4, .inl (cI, 30, .inl f4)), (r1, .inr (0, [.ref j1, .int (nI L1.length)])), (j1, .inl (cI, 30, .inl f1))]) (w1 := [(r2, .inr (0, [.ref j2, .int (nI L2.dropLast.length)])), (j2, .inl (cI, 30, .inl f33))]) hP hD [7, 8] [0, 1, 2, 3, 4, 5, 6] rfl rfl (by decide) (by decide) ht hk1 hFc hB
          clear hB hk1 hz1 hvm ht hPc hDc hKc hFc
          clear hP hD hS
          have hP : va_P G vwCl [(sh, .inr (1, [.ref r1, .ref r2, .ref r3, .ref r4, .int (nI rc), .int (nI bo), .int lv])), (r3, .inr (0, [.ref j3, .int (nI L3.length)])), (j3, .inl (cI, 30, .inl f3)), (r4, .inr (0, [.ref j4, .int (nI L4.length)])), (j4, .inl (cI, 30, .inl f4)), (r1, .inr (0, [.ref j1, .int (nI L1.length)])), (j1, .inl (cI, 30, .inl f1)), (r2, .inr (0, [.ref j2, .int (nI L2.dropLast.length)])), (j2, .inl (cI, 30, .inl f33))] H35 := hP1
          have hD : va_D A [(sh, .inr (1, [.ref r1, .ref r2, .ref r3, .ref r4, .int (nI rc), .int (nI bo), .int lv])), (r3, .inr (0, [.ref j3, .int (nI L3.length)])), (j3, .inl (cI, 30, .inl f3)), (r4, .inr (0, [.ref j4, .int (nI L4.length)])), (j4, .inl (cI, 30, .inl f4)), (r1, .inr (0, [.ref j1, .int (nI L1.length)])), (j1, .inl (cI, 30, .inl f1)), (r2, .inr (0, [.ref j2, .int (nI L2.dropLast.length)])), (j2, .inl (cI, 30, .inl f33))] := hD1
          have hS := hS1
          clear hP1 hD1 hS1
          refine va_put (D := G) (ci := 1) (v := .int (lst L2)) (ty := .int) (C := RX1) (T := TX1) (N := 7) hx hb hts iX1_makeRoom_X1 tyX1 tyX1_ok nmX1 hown hK hP hD hS 0 rfl rfl 6 (by decide) (hts (.fieldLink RX1 36 "GhostPantry$Shelves" "leaver" "I") (by decide +kernel)) (fun _ h9 => h9) rfl (by decide +kernel) rfl rfl (Nat.le_of_ble_eq_true rfl) dX1_makeRoom_118 (fun H38 locs hP1 hD1 hS1 => ?_)
          clear hP hD hS
          have hP : va_P G vwCl [(sh, .inr (1, [.ref r1, .ref r2, .ref r3, .ref r4, .int (nI rc), .int (nI bo), .int (lst L2)])), (r3, .inr (0, [.ref j3, .int (nI L3.length)])), (j3, .inl (cI, 30, .inl f3)), (r4, .inr (0, [.ref j4, .int (nI L4.length)])), (j4, .inl (cI, 30, .inl f4)), (r1, .inr (0, [.ref j1, .int (nI L1.length)])), (j1, .inl (cI, 30, .inl f1)), (r2, .inr (0, [.ref j2, .int (nI L2.dropLast.length)])), (j2, .inl (cI, 30, .inl f33))] H38 := hP1
          have hD : va_D A [(sh, .inr (1, [.ref r1, .ref r2, .ref r3, .ref r4, .int (nI rc), .int (nI bo), .int (lst L2)])), (r3, .inr (0, [.ref j3, .int (nI L3.length)])), (j3, .inl (cI, 30, .inl f3)), (r4, .inr (0, [.ref j4, .int (nI L4.length)])), (j4, .inl (cI, 30, .inl f4)), (r1, .inr (0, [.ref j1, .int (nI L1.length)])), (j1, .inl (cI, 30, .inl f1)), (r2, .inr (0, [.ref j2, .int (nI L2.dropLast.length)])), (j2, .inl (cI, 30, .inl f33))] := hD1
          have hS := hS1
          clear hP1 hD1 hS1
          refine lv_aload_n hx hb dX1_makeRoom_121 rfl (lv_at hl 5 rfl) ?_
          refine va_get (D := G) (ci := 1) (v := .int (lst L2)) (C := RX1) (T := TX1) (N := 7) hx hb hts iX1_makeRoom_X1 hown hK hP 0 rfl rfl 6 (by decide) (hts (.fieldLink RX1 36 "GhostPantry$Shelves" "leaver" "I") (by decide +kernel)) (fun _ h9 => h9) rfl dX1_makeRoom_122 ?_
          refine lv_iconst (v := (-1)) hx hb dX1_makeRoom_125 (by decide +kernel) ?_
          refine lv_icmp_eq (tgt := 138) hx hb dX1_makeRoom_126 (by decide) (fun c39 => False.elim (by exact ok_ne (ok_lst hj2 (by omega)) c39)) (fun c39 => ?_)
          refine lv_aload hx hb dX1_makeRoom_129 (lv_at hl 0 rfl) ?_
          refine lv_aload_n hx hb dX1_makeRoom_131 rfl (lv_at hl 5 rfl) ?_
          refine va_get (D := G) (ci := 1) (v := .int (lst L2)) (C := RX1) (T := TX1) (N := 7) hx hb hts iX1_makeRoom_X1 hown hK hP 0 rfl rfl 6 (by decide) (hts (.fieldLink RX1 36 "GhostPantry$Shelves" "leaver" "I") (by decide +kernel)) (fun _ h9 => h9) rfl dX1_makeRoom_132 ?_
          have hPc := hP.sub (ws' := [(r4, .inr (0, [.ref j4, .int (nI L4.length)])), (j4, .inl (cI, 30, .inl f4))]) [3, 4] rfl
          have hDc := hD.sub (ws' := [(r4, .inr (0, [.ref j4, .int (nI L4.length)])), (j4, .inl (cI, 30, .inl f4))]) [3, 4] (by decide) rfl
          have hKc := hK.sub (tys' := [(cI, .int)]) [0] rfl
          have hFc := va_free (wc := [(r4, .inr (0, [.ref j4, .int (nI L4.length)])), (j4, .inl (cI, 30, .inl f4))]) hD hS hA [3, 4] rfl
          refine va_callv (va_runV (As := [.int (lst L2)]) (rest := []) ⟨hx, hb, hml, hown, hts⟩ (c_X0_putFirst l G cI r4 j4 f4 L4 hR4 (by omega) (lst L2) (by omega) H38.size) (cwV 1 hts gX1_makeRoom_X0_putFirst rfl rfl rfl (by decide +kernel) ⟨Nat.le_of_ble_eq_true rfl, Nat.le_of_ble_eq_true rfl⟩) (g_preV (As := [.int (lst L2)]) hPc hKc hDc 0 rfl rfl) rfl rfl hl.1 rfl (lv_room (Nat.le_of_ble_eq_true rfl)) dX1_makeRoom_135 ⟨(Nat.le_of_ble_eq_true rfl), (Nat.le_of_ble_eq_true rfl)⟩) hS (fun q _ h => hFc q h) hFc (fun u44 t H42 locs ht hvm hw hB hz1 hk1 hS1 => ?_)
          obtain ⟨f40, hf41, hB⟩ := hB
          obtain ⟨hP1, hD1⟩ := g_join (wc := [(r4, .inr (0, [.ref j4, .int (nI L4.length)])), (j4, .inl (cI, 30, .inl f4))]) (wr := [(sh, .inr (1, [.ref r1, .ref r2, .ref r3, .ref r4, .int (nI rc), .int (nI bo), .int (lst L2)])), (r3, .inr (0, [.ref j3, .int (nI L3.length)])), (j3, .inl (cI, 30, .inl f3)), (r1, .inr (0, [.ref j1, .int (nI L1.length)])), (j1, .inl (cI, 30, .inl f1)), (r2, .inr (0, [.ref j2, .int (nI L2.dropLast.length)])), (j2, .inl (cI, 30, .inl f33))]) (w1 := [(r4, .inr (0, [.ref j4, .int (nI (((lst L2) :: L4).length))])), (j4, .inl (cI, 30, .inl f40))]) hP hD [3, 4] [0, 1, 2, 5, 6, 7, 8] rfl rfl (by decide) (by decide) ht hk1 hFc hB
          clear hB hk1 hz1 hvm ht hPc hDc hKc hFc
          clear hP hD hS
          have hP : va_P G vwCl [(sh, .inr (1, [.ref r1, .ref r2, .ref r3, .ref r4, .int (nI rc), .int (nI bo), .int (lst L2)])), (r3, .inr (0, [.ref j3, .int (nI L3.length)])), (j3, .inl (cI, 30, .inl f3)), (r1, .inr (0, [.ref j1, .int (nI L1.length)])), (j1, .inl (cI, 30, .inl f1)), (r2, .inr (0, [.ref j2, .int (nI L2.dropLast.length)])), (j2, .inl (cI, 30, .inl f33)), (r4, .inr (0, [.ref j4, .int (nI (((lst L2) :: L4).length))])), (j4, .inl (cI, 30, .inl f40))] H42 := hP1
          have hD : va_D A [(sh, .inr (1, [.ref r1, .ref r2, .ref r3, .ref r4, .int (nI rc), .int (nI bo), .int (lst L2)])), (r3, .inr (0, [.ref j3, .int (nI L3.length)])), (j3, .inl (cI, 30, .inl f3)), (r1, .inr (0, [.ref j1, .int (nI L1.length)])), (j1, .inl (cI, 30, .inl f1)), (r2, .inr (0, [.ref j2, .int (nI L2.dropLast.length)])), (j2, .inl (cI, 30, .inl f33)), (r4, .inr (0, [.ref j4, .int (nI (((lst L2) :: L4).length))])), (j4, .inl (cI, 30, .inl f40))] := hD1
          have hS := hS1
          clear hP1 hD1 hS1
          have hP9 := hP.sub (ws' := [(sh, .inr (1, [.ref r1, .ref r2, .ref r3, .ref r4, .int (nI rc), .int (nI bo), .int (lst L2)])), (r1, .inr (0, [.ref j1, .int (nI L1.length)])), (j1, .inl (cI, 30, .inl f1)), (r2, .inr (0, [.ref j2, .int (nI L2.dropLast.length)])), (j2, .inl (cI, 30, .inl f33)), (r3, .inr (0, [.ref j3, .int (nI L3.length)])), (j3, .inl (cI, 30, .inl f3)), (r4, .inr (0, [.ref j4, .int (nI (((lst L2) :: L4).length))])), (j4, .inl (cI, 30, .inl f40))]) [0, 3, 4, 5, 6, 1, 2, 7, 8] rfl
          have hD9 := hD.sub (ws' := [(sh, .inr (1, [.ref r1, .ref r2, .ref r3, .ref r4, .int (nI rc), .int (nI bo), .int (lst L2)])), (r1, .inr (0, [.ref j1, .int (nI L1.length)])), (j1, .inl (cI, 30, .inl f1)), (r2, .inr (0, [.ref j2, .int (nI L2.dropLast.length)])), (j2, .inl (cI, 30, .inl f33)), (r3, .inr (0, [.ref j3, .int (nI L3.length)])), (j3, .inl (cI, 30, .inl f3)), (r4, .inr (0, [.ref j4, .int (nI (((lst L2) :: L4).length))])), (j4, .inl (cI, 30, .inl f40))]) [0, 3, 4, 5, 6, 1, 2, 7, 8] (by decide) rfl
          exact W.vret hx hb hr (fun t ht hW => ⟨⟨((L1, L2.dropLast, L3, ((lst L2) :: L4)), (lst L2)), rfl, (room_c (by omega) (fun z => by rcases z with ⟨z1, (z2 | ⟨z2, z3⟩) | z2⟩ <;> first | omega | (exact absurd z3 (by rw [hff]; decide))) lv), _, _, _, _, hR1, hf34, hR3, hf41, g_at hP9 hK hD9 ht hW⟩, hS.F ht⟩) hS.2.2 dX1_makeRoom_138
        · refine lv_iload_n hx hb dX1_makeRoom_55 rfl (lv_at hl 0 rfl) ?_
          refine g_if_ne (tgt := 69) hx hb dX1_makeRoom_56 (by decide) (by decide) (fun c45 => False.elim (by omega)) (fun c45 => ?_)
          refine lv_aload_n hx hb dX1_makeRoom_59 rfl (lv_at hl 2 rfl) ?_
          refine va_get (D := G) (ci := 1) (v := .ref r2) (C := RX1) (T := TX1) (N := 7) hx hb hts iX1_makeRoom_X1 hown hK hP 0 rfl rfl 1 (by decide) (hts (.fieldLink RX1 20 "GhostPantry$Shelves" "frequent" "LGhostPantry$Row;") (by decide +kernel)) (fun _ h9 => h9) rfl dX1_makeRoom_60 ?_
          have hPc := hP.sub (ws' := [(r2, .inr (0, [.ref j2, .int (nI L2.length)])), (j2, .inl (cI, 30, .inl f2))]) [7, 8] rfl
          have hDc := hD.sub (ws' := [(r2, .inr (0, [.ref j2, .int (nI L2.length)])), (j2, .inl (cI, 30, .inl f2))]) [7, 8] (by decide) rfl
          have hKc := hK.sub (tys' := [(cI, .int)]) [0] rfl
          have hFc := va_free (wc := [(r2, .inr (0, [.ref j2, .int (nI L2.length)])), (j2, .inl (cI, 30, .inl f2))]) hD hS hA [7, 8] rfl
          refine va_calli (va_runV (As := []) (rest := []) ⟨hx, hb, hml, hown, hts⟩ (c_X0_length l G cI r2 j2 f2 L2 hR2 (by omega)  H4.size) (cwV 0 hts gX1_makeRoom_X0_length rfl rfl rfl (by decide +kernel) ⟨Nat.le_of_ble_eq_true rfl, Nat.le_of_ble_eq_true rfl⟩) (g_preV (As := []) hPc hKc hDc 0 rfl rfl) rfl rfl hl.1 rfl (lv_room (Nat.le_of_ble_eq_true rfl)) dX1_makeRoom_63 ⟨(Nat.le_of_ble_eq_true rfl), (Nat.le_of_ble_eq_true rfl)⟩) hS (fun q _ h => hFc q h) hFc (fun r47 u48 t H46 locs ht hvm hw hB hz1 hk1 hS1 => ?_)
          subst hw
          obtain ⟨hP1, hD1⟩ := g_join (wc := [(r2, .inr (0, [.ref j2, .int (nI L2.length)])), (j2, .inl (cI, 30, .inl f2))]) (wr := [(sh, .inr (1, [.ref r1, .ref r2, .ref r3, .ref r4, .int (nI rc), .int (nI bo), .int lv])), (r3, .inr (0, [.ref j3, .int (nI L3.length)])), (j3, .inl (cI, 30, .inl f3)), (r4, .inr (0, [.ref j4, .int (nI L4.length)])), (j4, .inl (cI, 30, .inl f4)), (r1, .inr (0, [.ref j1, .int (nI L1.length)])), (j1, .inl (cI, 30, .inl f1))]) (w1 := [(r2, .inr (0, [.ref j2, .int (nI L2.length)])), (j2, .inl (cI, 30, .inl f2))]) hP hD [7, 8] [0, 1, 2, 3, 4, 5, 6] rfl rfl (by decide) (by decide) ht hk1 hFc hB
          clear hB hk1 hz1 hvm ht hPc hDc hKc hFc
          clear hP hD hS
          have hP : va_P G vwCl [(sh, .inr (1, [.ref r1, .ref r2, .ref r3, .ref r4, .int (nI rc), .int (nI bo), .int lv])), (r3, .inr (0, [.ref j3, .int (nI L3.length)])), (j3, .inl (cI, 30, .inl f3)), (r4, .inr (0, [.ref j4, .int (nI L4.length)])), (j4, .inl (cI, 30, .inl f4)), (r1, .inr (0, [.ref j1, .int (nI L1.length)])), (j1, .inl (cI, 30, .inl f1)), (r2, .inr (0, [.ref j2, .int (nI L2.length)])), (j2, .inl (cI, 30, .inl f2))] H46 := hP1
          have hD : va_D A [(sh, .inr (1, [.ref r1, .ref r2, .ref r3, .ref r4, .int (nI rc), .int (nI bo), .int lv])), (r3, .inr (0, [.ref j3, .int (nI L3.length)])), (j3, .inl (cI, 30, .inl f3)), (r4, .inr (0, [.ref j4, .int (nI L4.length)])), (j4, .inl (cI, 30, .inl f4)), (r1, .inr (0, [.ref j1, .int (nI L1.length)])), (j1, .inl (cI, 30, .inl f1)), (r2, .inr (0, [.ref j2, .int (nI L2.length)])), (j2, .inl (cI, 30, .inl f2))] := hD1
          have hS := hS1
          clear hP1 hD1 hS1
          refine g_if_ne (tgt := 73) hx hb dX1_makeRoom_66 (by decide) (by omega) (fun c49 => ?_) (fun c49 => ?_)
          · refine lv_iconst (v := (nI 0)) hx hb dX1_makeRoom_73 (by decide +kernel) ?_
            refine lv_istore (lv' := [(4, .int (nI 0)), (3, .int (nI 0)), (2, .int (nI L1.length)), (0, .ref sh), (1, .int (nI ff.toNat))]) hx hb dX1_makeRoom_74 hl (by decide) rfl (fun ls hl => ?_)
            refine lv_iload hx hb dX1_makeRoom_76 (lv_at hl 0 rfl) ?_
            refine g_if_eq (tgt := 88) hx hb dX1_makeRoom_78 (by decide) (by decide) (fun c50 => ?_) (fun c50 => False.elim (by omega))
            refine lv_aload_n hx hb dX1_makeRoom_88 rfl (lv_at hl 3 rfl) ?_
            refine va_get (D := G) (ci := 1) (v := .ref r2) (C := RX1) (T := TX1) (N := 7) hx hb hts iX1_makeRoom_X1 hown hK hP 0 rfl rfl 1 (by decide) (hts (.fieldLink RX1 20 "GhostPantry$Shelves" "frequent" "LGhostPantry$Row;") (by decide +kernel)) (fun _ h9 => h9) rfl dX1_makeRoom_89 ?_
            refine lv_astore (lv' := [(5, .ref r2), (4, .int (nI 0)), (3, .int (nI 0)), (2, .int (nI L1.length)), (0, .ref sh), (1, .int (nI ff.toNat))]) hx hb dX1_makeRoom_92 hl (by decide) rfl (fun ls hl => ?_)
            refine lv_iload hx hb dX1_makeRoom_94 (lv_at hl 1 rfl) ?_
            refine g_if_eq (tgt := 106) hx hb dX1_makeRoom_96 (by decide) (by decide) (fun c51 => ?_) (fun c51 => False.elim (by omega))
            refine lv_aload_n hx hb dX1_makeRoom_106 rfl (lv_at hl 4 rfl) ?_
            refine va_get (D := G) (ci := 1) (v := .ref r4) (C := RX1) (T := TX1) (N := 7) hx hb hts iX1_makeRoom_X1 hown hK hP 0 rfl rfl 3 (by decide) (hts (.fieldLink RX1 26 "GhostPantry$Shelves" "frequentGhosts" "LGhostPantry$Row;") (by decide +kernel)) (fun _ h9 => h9) rfl dX1_makeRoom_107 ?_
            refine lv_astore (lv' := [(6, .ref r4), (5, .ref r2), (4, .int (nI 0)), (3, .int (nI 0)), (2, .int (nI L1.length)), (0, .ref sh), (1, .int (nI ff.toNat))]) hx hb dX1_makeRoom_110 hl (by decide) rfl (fun ls hl => ?_)
            refine lv_aload_n hx hb dX1_makeRoom_112 rfl (lv_at hl 5 rfl) ?_
            refine lv_aload hx hb dX1_makeRoom_113 (lv_at hl 1 rfl) ?_
            have hPc := hP.sub (ws' := [(r2, .inr (0, [.ref j2, .int (nI L2.length)])), (j2, .inl (cI, 30, .inl f2))]) [7, 8] rfl
            have hDc := hD.sub (ws' := [(r2, .inr (0, [.ref j2, .int (nI L2.length)])), (j2, .inl (cI, 30, .inl f2))]) [7, 8] (by decide) rfl
            have hKc := hK.sub (tys' := [(cI, .int)]) [0] rfl
            have hFc := va_free (wc := [(r2, .inr (0, [.ref j2, .int (nI L2.length)])), (j2, .inl (cI, 30, .inl f2))]) hD hS hA [7, 8] rfl
            refine va_calli (va_runV (As := []) (rest := [.ref sh]) ⟨hx, hb, hml, hown, hts⟩ (c_X0_takeLast l G cI r2 j2 f2 L2 hR2 (by omega) (by omega) H46.size) (cwV 0 hts gX1_makeRoom_X0_takeLast rfl rfl rfl (by decide +kernel) ⟨Nat.le_of_ble_eq_true rfl, Nat.le_of_ble_eq_true rfl⟩) (g_preV (As := []) hPc hKc hDc 0 rfl rfl) rfl rfl hl.1 rfl (lv_room (Nat.le_of_ble_eq_true rfl)) dX1_makeRoom_115 ⟨(Nat.le_of_ble_eq_true rfl), (Nat.le_of_ble_eq_true rfl)⟩) hS (fun q _ h => hFc q h) hFc (fun r55 u56 t H54 locs ht hvm hw hB hz1 hk1 hS1 => ?_)
            subst hw
            obtain ⟨f52, hf53, hB⟩ := hB
            obtain ⟨hP1, hD1⟩ := g_join (wc := [(r2, .inr (0, [.ref j2, .int (nI L2.length)])), (j2, .inl (cI, 30, .inl f2))]) (wr := [(sh, .inr (1, [.ref r1, .ref r2, .ref r3, .ref r4, .int (nI rc), .int (nI bo), .int lv])), (r3, .inr (0, [.ref j3, .int (nI L3.length)])), (j3, .inl (cI, 30, .inl f3)), (r4, .inr (0, [.ref j4, .int (nI L4.length)])), (j4, .inl (cI, 30, .inl f4)), (r1, .inr (0, [.ref j1, .int (nI L1.length)])), (j1, .inl (cI, 30, .inl f1))]) (w1 := [(r2, .inr (0, [.ref j2, .int (nI L2.dropLast.length)])), (j2, .inl (cI, 30, .inl f52))]) hP hD [7, 8] [0, 1, 2, 3, 4, 5, 6] rfl rfl (by decide) (by decide) ht hk1 hFc hB
            clear hB hk1 hz1 hvm ht hPc hDc hKc hFc
            clear hP hD hS
            have hP : va_P G vwCl [(sh, .inr (1, [.ref r1, .ref r2, .ref r3, .ref r4, .int (nI rc), .int (nI bo), .int lv])), (r3, .inr (0, [.ref j3, .int (nI L3.length)])), (j3, .inl (cI, 30, .inl f3)), (r4, .inr (0, [.ref j4, .int (nI L4.length)])), (j4, .inl (cI, 30, .inl f4)), (r1, .inr (0, [.ref j1, .int (nI L1.length)])), (j1, .inl (cI, 30, .inl f1)), (r2, .inr (0, [.ref j2, .int (nI L2.dropLast.length)])), (j2, .inl (cI, 30, .inl f52))] H54 := hP1
            have hD : va_D A [(sh, .inr (1, [.ref r1, .ref r2, .ref r3, .ref r4, .int (nI rc), .int (nI bo), .int lv])), (r3, .inr (0, [.ref j3, .int (nI L3.length)])), (j3, .inl (cI, 30, .inl f3)), (r4, .inr (0, [.ref j4, .int (nI L4.length)])), (j4, .inl (cI, 30, .inl f4)), (r1, .inr (0, [.ref j1, .int (nI L1.length)])), (j1, .inl (cI, 30, .inl f1)), (r2, .inr (0, [.ref j2, .int (nI L2.dropLast.length)])), (j2, .inl (cI, 30, .inl f52))] := hD1
            have hS := hS1
            clear hP1 hD1 hS1
            refine va_put (D := G) (ci := 1) (v := .int (lst L2)) (ty := .int) (C := RX1) (T := TX1) (N := 7) hx hb hts iX1_makeRoom_X1 tyX1 tyX1_ok nmX1 hown hK hP hD hS 0 rfl rfl 6 (by decide) (hts (.fieldLink RX1 36 "GhostPantry$Shelves" "leaver" "I") (by decide +kernel)) (fun _ h9 => h9) rfl (by decide +kernel) rfl rfl (Nat.le_of_ble_eq_true rfl) dX1_makeRoom_118 (fun H57 locs hP1 hD1 hS1 => ?_)
            clear hP hD hS
            have hP : va_P G vwCl [(sh, .inr (1, [.ref r1, .ref r2, .ref r3, .ref r4, .int (nI rc), .int (nI bo), .int (lst L2)])), (r3, .inr (0, [.ref j3, .int (nI L3.length)])), (j3, .inl (cI, 30, .inl f3)), (r4, .inr (0, [.ref j4, .int (nI L4.length)])), (j4, .inl (cI, 30, .inl f4)), (r1, .inr (0, [.ref j1, .int (nI L1.length)])), (j1, .inl (cI, 30, .inl f1)), (r2, .inr (0, [.ref j2, .int (nI L2.dropLast.length)])), (j2, .inl (cI, 30, .inl f52))] H57 := hP1
            have hD : va_D A [(sh, .inr (1, [.ref r1, .ref r2, .ref r3, .ref r4, .int (nI rc), .int (nI bo), .int (lst L2)])), (r3, .inr (0, [.ref j3, .int (nI L3.length)])), (j3, .inl (cI, 30, .inl f3)), (r4, .inr (0, [.ref j4, .int (nI L4.length)])), (j4, .inl (cI, 30, .inl f4)), (r1, .inr (0, [.ref j1, .int (nI L1.length)])), (j1, .inl (cI, 30, .inl f1)), (r2, .inr (0, [.ref j2, .int (nI L2.dropLast.length)])), (j2, .inl (cI, 30, .inl f52))] := hD1
            have hS := hS1
            clear hP1 hD1 hS1
            refine lv_aload_n hx hb dX1_makeRoom_121 rfl (lv_at hl 5 rfl) ?_
            refine va_get (D := G) (ci := 1) (v := .int (lst L2)) (C := RX1) (T := TX1) (N := 7) hx hb hts iX1_makeRoom_X1 hown hK hP 0 rfl rfl 6 (by decide) (hts (.fieldLink RX1 36 "GhostPantry$Shelves" "leaver" "I") (by decide +kernel)) (fun _ h9 => h9) rfl dX1_makeRoom_122 ?_
            refine lv_iconst (v := (-1)) hx hb dX1_makeRoom_125 (by decide +kernel) ?_
            refine lv_icmp_eq (tgt := 138) hx hb dX1_makeRoom_126 (by decide) (fun c58 => False.elim (by exact ok_ne (ok_lst hj2 (by omega)) c58)) (fun c58 => ?_)
            refine lv_aload hx hb dX1_makeRoom_129 (lv_at hl 0 rfl) ?_
            refine lv_aload_n hx hb dX1_makeRoom_131 rfl (lv_at hl 5 rfl) ?_
            refine va_get (D := G) (ci := 1) (v := .int (lst L2)) (C := RX1) (T := TX1) (N := 7) hx hb hts iX1_makeRoom_X1 hown hK hP 0 rfl rfl 6 (by decide) (hts (.fieldLink RX1 36 "GhostPantry$Shelves" "leaver" "I") (by decide +kernel)) (fun _ h9 => h9) rfl dX1_makeRoom_132 ?_
            have hPc := hP.sub (ws' := [(r4, .inr (0, [.ref j4, .int (nI L4.length)])), (j4, .inl (cI, 30, .inl f4))]) [3, 4] rfl
            have hDc := hD.sub (ws' := [(r4, .inr (0, [.ref j4, .int (nI L4.length)])), (j4, .inl (cI, 30, .inl f4))]) [3, 4] (by decide) rfl
            have hKc := hK.sub (tys' := [(cI, .int)]) [0] rfl
            have hFc := va_free (wc := [(r4, .inr (0, [.ref j4, .int (nI L4.length)])), (j4, .inl (cI, 30, .inl f4))]) hD hS hA [3, 4] rfl
            refine va_callv (va_runV (As := [.int (lst L2)]) (rest := []) ⟨hx, hb, hml, hown, hts⟩ (c_X0_putFirst l G cI r4 j4 f4 L4 hR4 (by omega) (lst L2) (by omega) H57.size) (cwV 1 hts gX1_makeRoom_X0_putFirst rfl rfl rfl (by decide +kernel) ⟨Nat.le_of_ble_eq_true rfl, Nat.le_of_ble_eq_true rfl⟩) (g_preV (As := [.int (lst L2)]) hPc hKc hDc 0 rfl rfl) rfl rfl hl.1 rfl (lv_room (Nat.le_of_ble_eq_true rfl)) dX1_makeRoom_135 ⟨(Nat.le_of_ble_eq_true rfl), (Nat.le_of_ble_eq_true rfl)⟩) hS (fun q _ h => hFc q h) hFc (fun u63 t H61 locs ht hvm hw hB hz1 hk1 hS1 => ?_)
            obtain ⟨f59, hf60, hB⟩ := hB
            obtain ⟨hP1, hD1⟩ := g_join (wc := [(r4, .inr (0, [.ref j4, .int (nI L4.length)])), (j4, .inl (cI, 30, .inl f4))]) (wr := [(sh, .inr (1, [.ref r1, .ref r2, .ref r3, .ref r4, .int (nI rc), .int (nI bo), .int (lst L2)])), (r3, .inr (0, [.ref j3, .int (nI L3.length)])), (j3, .inl (cI, 30, .inl f3)), (r1, .inr (0, [.ref j1, .int (nI L1.length)])), (j1, .inl (cI, 30, .inl f1)), (r2, .inr (0, [.ref j2, .int (nI L2.dropLast.length)])), (j2, .inl (cI, 30, .inl f52))]) (w1 := [(r4, .inr (0, [.ref j4, .int (nI (((lst L2) :: L4).length))])), (j4, .inl (cI, 30, .inl f59))]) hP hD [3, 4] [0, 1, 2, 5, 6, 7, 8] rfl rfl (by decide) (by decide) ht hk1 hFc hB
            clear hB hk1 hz1 hvm ht hPc hDc hKc hFc
            clear hP hD hS
            have hP : va_P G vwCl [(sh, .inr (1, [.ref r1, .ref r2, .ref r3, .ref r4, .int (nI rc), .int (nI bo), .int (lst L2)])), (r3, .inr (0, [.ref j3, .int (nI L3.length)])), (j3, .inl (cI, 30, .inl f3)), (r1, .inr (0, [.ref j1, .int (nI L1.length)])), (j1, .inl (cI, 30, .inl f1)), (r2, .inr (0, [.ref j2, .int (nI L2.dropLast.length)])), (j2, .inl (cI, 30, .inl f52)), (r4, .inr (0, [.ref j4, .int (nI (((lst L2) :: L4).length))])), (j4, .inl (cI, 30, .inl f59))] H61 := hP1
            have hD : va_D A [(sh, .inr (1, [.ref r1, .ref r2, .ref r3, .ref r4, .int (nI rc), .int (nI bo), .int (lst L2)])), (r3, .inr (0, [.ref j3, .int (nI L3.length)])), (j3, .inl (cI, 30, .inl f3)), (r1, .inr (0, [.ref j1, .int (nI L1.length)])), (j1, .inl (cI, 30, .inl f1)), (r2, .inr (0, [.ref j2, .int (nI L2.dropLast.length)])), (j2, .inl (cI, 30, .inl f52)), (r4, .inr (0, [.ref j4, .int (nI (((lst L2) :: L4).length))])), (j4, .inl (cI, 30, .inl f59))] := hD1
            have hS := hS1
            clear hP1 hD1 hS1
            have hP9 := hP.sub (ws' := [(sh, .inr (1, [.ref r1, .ref r2, .ref r3, .ref r4, .int (nI rc), .int (nI bo), .int (lst L2)])), (r1, .inr (0, [.ref j1, .int (nI L1.length)])), (j1, .inl (cI, 30, .inl f1)), (r2, .inr (0, [.ref j2, .int (nI L2.dropLast.length)])), (j2, .inl (cI, 30, .inl f52)), (r3, .inr (0, [.ref j3, .int (nI L3.length)])), (j3, .inl (cI, 30, .inl f3)), (r4, .inr (0, [.ref j4, .int (nI (((lst L2) :: L4).length))])), (j4, .inl (cI, 30, .inl f59))]) [0, 3, 4, 5, 6, 1, 2, 7, 8] rfl
            have hD9 := hD.sub (ws' := [(sh, .inr (1, [.ref r1, .ref r2, .ref r3, .ref r4, .int (nI rc), .int (nI bo), .int (lst L2)])), (r1, .inr (0, [.ref j1, .int (nI L1.length)])), (j1, .inl (cI, 30, .inl f1)), (r2, .inr (0, [.ref j2, .int (nI L2.dropLast.length)])), (j2, .inl (cI, 30, .inl f52)), (r3, .inr (0, [.ref j3, .int (nI L3.length)])), (j3, .inl (cI, 30, .inl f3)), (r4, .inr (0, [.ref j4, .int (nI (((lst L2) :: L4).length))])), (j4, .inl (cI, 30, .inl f59))]) [0, 3, 4, 5, 6, 1, 2, 7, 8] (by decide) rfl
            exact W.vret hx hb hr (fun t ht hW => ⟨⟨((L1, L2.dropLast, L3, ((lst L2) :: L4)), (lst L2)), rfl, (room_c (by omega) (fun z => by rcases z with ⟨z1, (z2 | ⟨z2, z3⟩) | z2⟩ <;> first | omega | (exact absurd z3 (by rw [hff]; decide))) lv), _, _, _, _, hR1, hf53, hR3, hf60, g_at hP9 hK hD9 ht hW⟩, hS.F ht⟩) hS.2.2 dX1_makeRoom_138
          · refine lv_iconst (v := (nI 1)) hx hb dX1_makeRoom_69 (by decide +kernel) ?_
            refine lv_goto (tgt := 74) hx hb dX1_makeRoom_70 (by decide) ?_
            refine lv_istore (lv' := [(4, .int (nI 1)), (3, .int (nI 0)), (2, .int (nI L1.length)), (0, .ref sh), (1, .int (nI ff.toNat))]) hx hb dX1_makeRoom_74 hl (by decide) rfl (fun ls hl => ?_)
            refine lv_iload hx hb dX1_makeRoom_76 (lv_at hl 0 rfl) ?_
            refine g_if_eq (tgt := 88) hx hb dX1_makeRoom_78 (by decide) (by decide) (fun c64 => False.elim (by omega)) (fun c64 => ?_)
            refine lv_aload_n hx hb dX1_makeRoom_81 rfl (lv_at hl 3 rfl) ?_
            refine va_get (D := G) (ci := 1) (v := .ref r1) (C := RX1) (T := TX1) (N := 7) hx hb hts iX1_makeRoom_X1 hown hK hP 0 rfl rfl 0 (by decide) (hts (.fieldLink RX1 14 "GhostPantry$Shelves" "recent" "LGhostPantry$Row;") (by decide +kernel)) (fun _ h9 => h9) rfl dX1_makeRoom_82 ?_
            refine lv_goto (tgt := 92) hx hb dX1_makeRoom_85 (by decide) ?_
            refine lv_astore (lv' := [(5, .ref r1), (4, .int (nI 1)), (3, .int (nI 0)), (2, .int (nI L1.length)), (0, .ref sh), (1, .int (nI ff.toNat))]) hx hb dX1_makeRoom_92 hl (by decide) rfl (fun ls hl => ?_)
            refine lv_iload hx hb dX1_makeRoom_94 (lv_at hl 1 rfl) ?_
            refine g_if_eq (tgt := 106) hx hb dX1_makeRoom_96 (by decide) (by decide) (fun c65 => False.elim (by omega)) (fun c65 => ?_)
            refine lv_aload_n hx hb dX1_makeRoom_99 rfl (lv_at hl 4 rfl) ?_
            refine va_get (D := G) (ci := 1) (v := .ref r3) (C := RX1) (T := TX1) (N := 7) hx hb hts iX1_makeRoom_X1 hown hK hP 0 rfl rfl 2 (by decide) (hts (.fieldLink RX1 23 "GhostPantry$Shelves" "recentGhosts" "LGhostPantry$Row;") (by decide +kernel)) (fun _ h9 => h9) rfl dX1_makeRoom_100 ?_
            refine lv_goto (tgt := 110) hx hb dX1_makeRoom_103 (by decide) ?_
            refine lv_astore (lv' := [(6, .ref r3), (5, .ref r1), (4, .int (nI 1)), (3, .int (nI 0)), (2, .int (nI L1.length)), (0, .ref sh), (1, .int (nI ff.toNat))]) hx hb dX1_makeRoom_110 hl (by decide) rfl (fun ls hl => ?_)
            refine lv_aload_n hx hb dX1_makeRoom_112 rfl (lv_at hl 5 rfl) ?_
            refine lv_aload hx hb dX1_makeRoom_113 (lv_at hl 1 rfl) ?_
            have hPc := hP.sub (ws' := [(r1, .inr (0, [.ref j1, .int (nI L1.length)])), (j1, .inl (cI, 30, .inl f1))]) [5, 6] rfl
            have hDc := hD.sub (ws' := [(r1, .inr (0, [.ref j1, .int (nI L1.length)])), (j1, .inl (cI, 30, .inl f1))]) [5, 6] (by decide) rfl
            have hKc := hK.sub (tys' := [(cI, .int)]) [0] rfl
            have hFc := va_free (wc := [(r1, .inr (0, [.ref j1, .int (nI L1.length)])), (j1, .inl (cI, 30, .inl f1))]) hD hS hA [5, 6] rfl
            refine va_calli (va_runV (As := []) (rest := [.ref sh]) ⟨hx, hb, hml, hown, hts⟩ (c_X0_takeLast l G cI r1 j1 f1 L1 hR1 (by omega) (by omega) H46.size) (cwV 0 hts gX1_makeRoom_X0_takeLast rfl rfl rfl (by decide +kernel) ⟨Nat.le_of_ble_eq_true rfl, Nat.le_of_ble_eq_true rfl⟩) (g_preV (As := []) hPc hKc hDc 0 rfl rfl) rfl rfl hl.1 rfl (lv_room (Nat.le_of_ble_eq_true rfl)) dX1_makeRoom_115 ⟨(Nat.le_of_ble_eq_true rfl), (Nat.le_of_ble_eq_true rfl)⟩) hS (fun q _ h => hFc q h) hFc (fun r69 u70 t H68 locs ht hvm hw hB hz1 hk1 hS1 => ?_)
            subst hw
            obtain ⟨f66, hf67, hB⟩ := hB
            obtain ⟨hP1, hD1⟩ := g_join (wc := [(r1, .inr (0, [.ref j1, .int (nI L1.length)])), (j1, .inl (cI, 30, .inl f1))]) (wr := [(sh, .inr (1, [.ref r1, .ref r2, .ref r3, .ref r4, .int (nI rc), .int (nI bo), .int lv])), (r3, .inr (0, [.ref j3, .int (nI L3.length)])), (j3, .inl (cI, 30, .inl f3)), (r4, .inr (0, [.ref j4, .int (nI L4.length)])), (j4, .inl (cI, 30, .inl f4)), (r2, .inr (0, [.ref j2, .int (nI L2.length)])), (j2, .inl (cI, 30, .inl f2))]) (w1 := [(r1, .inr (0, [.ref j1, .int (nI L1.dropLast.length)])), (j1, .inl (cI, 30, .inl f66))]) hP hD [5, 6] [0, 1, 2, 3, 4, 7, 8] rfl rfl (by decide) (by decide) ht hk1 hFc hB
            clear hB hk1 hz1 hvm ht hPc hDc hKc hFc
            clear hP hD hS
            have hP : va_P G vwCl [(sh, .inr (1, [.ref r1, .ref r2, .ref r3, .ref r4, .int (nI rc), .int (nI bo), .int lv])), (r3, .inr (0, [.ref j3, .int (nI L3.length)])), (j3, .inl (cI, 30, .inl f3)), (r4, .inr (0, [.ref j4, .int (nI L4.length)])), (j4, .inl (cI, 30, .inl f4)), (r2, .inr (0, [.ref j2, .int (nI L2.length)])), (j2, .inl (cI, 30, .inl f2)), (r1, .inr (0, [.ref j1, .int (nI L1.dropLast.length)])), (j1, .inl (cI, 30, .inl f66))] H68 := hP1
            have hD : va_D A [(sh, .inr (1, [.ref r1, .ref r2, .ref r3, .ref r4, .int (nI rc), .int (nI bo), .int lv])), (r3, .inr (0, [.ref j3, .int (nI L3.length)])), (j3, .inl (cI, 30, .inl f3)), (r4, .inr (0, [.ref j4, .int (nI L4.length)])), (j4, .inl (cI, 30, .inl f4)), (r2, .inr (0, [.ref j2, .int (nI L2.length)])), (j2, .inl (cI, 30, .inl f2)), (r1, .inr (0, [.ref j1, .int (nI L1.dropLast.length)])), (j1, .inl (cI, 30, .inl f66))] := hD1
            have hS := hS1
            clear hP1 hD1 hS1
            refine va_put (D := G) (ci := 1) (v := .int (lst L1)) (ty := .int) (C := RX1) (T := TX1) (N := 7) hx hb hts iX1_makeRoom_X1 tyX1 tyX1_ok nmX1 hown hK hP hD hS 0 rfl rfl 6 (by decide) (hts (.fieldLink RX1 36 "GhostPantry$Shelves" "leaver" "I") (by decide +kernel)) (fun _ h9 => h9) rfl (by decide +kernel) rfl rfl (Nat.le_of_ble_eq_true rfl) dX1_makeRoom_118 (fun H71 locs hP1 hD1 hS1 => ?_)
            clear hP hD hS
            have hP : va_P G vwCl [(sh, .inr (1, [.ref r1, .ref r2, .ref r3, .ref r4, .int (nI rc), .int (nI bo), .int (lst L1)])), (r3, .inr (0, [.ref j3, .int (nI L3.length)])), (j3, .inl (cI, 30, .inl f3)), (r4, .inr (0, [.ref j4, .int (nI L4.length)])), (j4, .inl (cI, 30, .inl f4)), (r2, .inr (0, [.ref j2, .int (nI L2.length)])), (j2, .inl (cI, 30, .inl f2)), (r1, .inr (0, [.ref j1, .int (nI L1.dropLast.length)])), (j1, .inl (cI, 30, .inl f66))] H71 := hP1
            have hD : va_D A [(sh, .inr (1, [.ref r1, .ref r2, .ref r3, .ref r4, .int (nI rc), .int (nI bo), .int (lst L1)])), (r3, .inr (0, [.ref j3, .int (nI L3.length)])), (j3, .inl (cI, 30, .inl f3)), (r4, .inr (0, [.ref j4, .int (nI L4.length)])), (j4, .inl (cI, 30, .inl f4)), (r2, .inr (0, [.ref j2, .int (nI L2.length)])), (j2, .inl (cI, 30, .inl f2)), (r1, .inr (0, [.ref j1, .int (nI L1.dropLast.length)])), (j1, .inl (cI, 30, .inl f66))] := hD1
            have hS := hS1
            clear hP1 hD1 hS1
            refine lv_aload_n hx hb dX1_makeRoom_121 rfl (lv_at hl 5 rfl) ?_
            refine va_get (D := G) (ci := 1) (v := .int (lst L1)) (C := RX1) (T := TX1) (N := 7) hx hb hts iX1_makeRoom_X1 hown hK hP 0 rfl rfl 6 (by decide) (hts (.fieldLink RX1 36 "GhostPantry$Shelves" "leaver" "I") (by decide +kernel)) (fun _ h9 => h9) rfl dX1_makeRoom_122 ?_
            refine lv_iconst (v := (-1)) hx hb dX1_makeRoom_125 (by decide +kernel) ?_
            refine lv_icmp_eq (tgt := 138) hx hb dX1_makeRoom_126 (by decide) (fun c72 => False.elim (by exact ok_ne (ok_lst hj1 (by omega)) c72)) (fun c72 => ?_)
            refine lv_aload hx hb dX1_makeRoom_129 (lv_at hl 0 rfl) ?_
            refine lv_aload_n hx hb dX1_makeRoom_131 rfl (lv_at hl 5 rfl) ?_
            refine va_get (D := G) (ci := 1) (v := .int (lst L1)) (C := RX1) (T := TX1) (N := 7) hx hb hts iX1_makeRoom_X1 hown hK hP 0 rfl rfl 6 (by decide) (hts (.fieldLink RX1 36 "GhostPantry$Shelves" "leaver" "I") (by decide +kernel)) (fun _ h9 => h9) rfl dX1_makeRoom_132 ?_
            have hPc := hP.sub (ws' := [(r3, .inr (0, [.ref j3, .int (nI L3.length)])), (j3, .inl (cI, 30, .inl f3))]) [1, 2] rfl
            have hDc := hD.sub (ws' := [(r3, .inr (0, [.ref j3, .int (nI L3.length)])), (j3, .inl (cI, 30, .inl f3))]) [1, 2] (by decide) rfl
            have hKc := hK.sub (tys' := [(cI, .int)]) [0] rfl
            have hFc := va_free (wc := [(r3, .inr (0, [.ref j3, .int (nI L3.length)])), (j3, .inl (cI, 30, .inl f3))]) hD hS hA [1, 2] rfl
            refine va_callv (va_runV (As := [.int (lst L1)]) (rest := []) ⟨hx, hb, hml, hown, hts⟩ (c_X0_putFirst l G cI r3 j3 f3 L3 hR3 (by omega) (lst L1) (by omega) H71.size) (cwV 1 hts gX1_makeRoom_X0_putFirst rfl rfl rfl (by decide +kernel) ⟨Nat.le_of_ble_eq_true rfl, Nat.le_of_ble_eq_true rfl⟩) (g_preV (As := [.int (lst L1)]) hPc hKc hDc 0 rfl rfl) rfl rfl hl.1 rfl (lv_room (Nat.le_of_ble_eq_true rfl)) dX1_makeRoom_135 ⟨(Nat.le_of_ble_eq_true rfl), (Nat.le_of_ble_eq_true rfl)⟩) hS (fun q _ h => hFc q h) hFc (fun u77 t H75 locs ht hvm hw hB hz1 hk1 hS1 => ?_)
            obtain ⟨f73, hf74, hB⟩ := hB
            obtain ⟨hP1, hD1⟩ := g_join (wc := [(r3, .inr (0, [.ref j3, .int (nI L3.length)])), (j3, .inl (cI, 30, .inl f3))]) (wr := [(sh, .inr (1, [.ref r1, .ref r2, .ref r3, .ref r4, .int (nI rc), .int (nI bo), .int (lst L1)])), (r4, .inr (0, [.ref j4, .int (nI L4.length)])), (j4, .inl (cI, 30, .inl f4)), (r2, .inr (0, [.ref j2, .int (nI L2.length)])), (j2, .inl (cI, 30, .inl f2)), (r1, .inr (0, [.ref j1, .int (nI L1.dropLast.length)])), (j1, .inl (cI, 30, .inl f66))]) (w1 := [(r3, .inr (0, [.ref j3, .int (nI (((lst L1) :: L3).length))])), (j3, .inl (cI, 30, .inl f73))]) hP hD [1, 2] [0, 3, 4, 5, 6, 7, 8] rfl rfl (by decide) (by decide) ht hk1 hFc hB
            clear hB hk1 hz1 hvm ht hPc hDc hKc hFc
            clear hP hD hS
            have hP : va_P G vwCl [(sh, .inr (1, [.ref r1, .ref r2, .ref r3, .ref r4, .int (nI rc), .int (nI bo), .int (lst L1)])), (r4, .inr (0, [.ref j4, .int (nI L4.length)])), (j4, .inl (cI, 30, .inl f4)), (r2, .inr (0, [.ref j2, .int (nI L2.length)])), (j2, .inl (cI, 30, .inl f2)), (r1, .inr (0, [.ref j1, .int (nI L1.dropLast.length)])), (j1, .inl (cI, 30, .inl f66)), (r3, .inr (0, [.ref j3, .int (nI (((lst L1) :: L3).length))])), (j3, .inl (cI, 30, .inl f73))] H75 := hP1
            have hD : va_D A [(sh, .inr (1, [.ref r1, .ref r2, .ref r3, .ref r4, .int (nI rc), .int (nI bo), .int (lst L1)])), (r4, .inr (0, [.ref j4, .int (nI L4.length)])), (j4, .inl (cI, 30, .inl f4)), (r2, .inr (0, [.ref j2, .int (nI L2.length)])), (j2, .inl (cI, 30, .inl f2)), (r1, .inr (0, [.ref j1, .int (nI L1.dropLast.length)])), (j1, .inl (cI, 30, .inl f66)), (r3, .inr (0, [.ref j3, .int (nI (((lst L1) :: L3).length))])), (j3, .inl (cI, 30, .inl f73))] := hD1
            have hS := hS1
            clear hP1 hD1 hS1
            have hP9 := hP.sub (ws' := [(sh, .inr (1, [.ref r1, .ref r2, .ref r3, .ref r4, .int (nI rc), .int (nI bo), .int (lst L1)])), (r1, .inr (0, [.ref j1, .int (nI L1.dropLast.length)])), (j1, .inl (cI, 30, .inl f66)), (r2, .inr (0, [.ref j2, .int (nI L2.length)])), (j2, .inl (cI, 30, .inl f2)), (r3, .inr (0, [.ref j3, .int (nI (((lst L1) :: L3).length))])), (j3, .inl (cI, 30, .inl f73)), (r4, .inr (0, [.ref j4, .int (nI L4.length)])), (j4, .inl (cI, 30, .inl f4))]) [0, 5, 6, 3, 4, 7, 8, 1, 2] rfl
            have hD9 := hD.sub (ws' := [(sh, .inr (1, [.ref r1, .ref r2, .ref r3, .ref r4, .int (nI rc), .int (nI bo), .int (lst L1)])), (r1, .inr (0, [.ref j1, .int (nI L1.dropLast.length)])), (j1, .inl (cI, 30, .inl f66)), (r2, .inr (0, [.ref j2, .int (nI L2.length)])), (j2, .inl (cI, 30, .inl f2)), (r3, .inr (0, [.ref j3, .int (nI (((lst L1) :: L3).length))])), (j3, .inl (cI, 30, .inl f73)), (r4, .inr (0, [.ref j4, .int (nI L4.length)])), (j4, .inl (cI, 30, .inl f4))]) [0, 5, 6, 3, 4, 7, 8, 1, 2] (by decide) rfl
            exact W.vret hx hb hr (fun t ht hW => ⟨⟨((L1.dropLast, L2, ((lst L1) :: L3), L4), (lst L1)), rfl, (room_b (by omega) (by omega) (Or.inr (by omega)) lv), _, _, _, _, hf67, hR2, hf74, hR4, g_at hP9 hK hD9 ht hW⟩, hS.F ht⟩) hS.2.2 dX1_makeRoom_138
      · have hff : ff = true := ff_t c25
        refine lv_iload_n hx hb dX1_makeRoom_37 rfl (lv_at hl 0 rfl) ?_
        refine lv_aload_n hx hb dX1_makeRoom_38 rfl (lv_at hl 1 rfl) ?_
        refine va_get (D := G) (ci := 1) (v := .int (nI bo)) (C := RX1) (T := TX1) (N := 7) hx hb hts iX1_makeRoom_X1 hown hK hP 0 rfl rfl 5 (by decide) (hts (.fieldLink RX1 33 "GhostPantry$Shelves" "border" "I") (by decide +kernel)) (fun _ h9 => h9) rfl dX1_makeRoom_39 ?_
        refine g_icmp_ne (tgt := 49) hx hb dX1_makeRoom_42 (by decide) (by omega) (by omega) (fun c78 => ?_) (fun c78 => ?_)
        · refine lv_iconst (v := (nI 0)) hx hb dX1_makeRoom_49 (by decide +kernel) ?_
          refine lv_istore_n (lv' := [(3, .int (nI 0)), (2, .int (nI L1.length)), (0, .ref sh), (1, .int (nI ff.toNat))]) hx hb dX1_makeRoom_50 rfl hl (by decide) rfl (fun ls hl => ?_)
          refine lv_iload_n hx hb dX1_makeRoom_51 rfl (lv_at hl 1 rfl) ?_
          refine g_if_le (tgt := 59) hx hb dX1_makeRoom_52 (by decide) (by omega) (fun c79 => ?_) (fun c79 => ?_)
          · refine lv_aload_n hx hb dX1_makeRoom_59 rfl (lv_at hl 2 rfl) ?_
            refine va_get (D := G) (ci := 1) (v := .ref r2) (C := RX1) (T := TX1) (N := 7) hx hb hts iX1_makeRoom_X1 hown hK hP 0 rfl rfl 1 (by decide) (hts (.fieldLink RX1 20 "GhostPantry$Shelves" "frequent" "LGhostPantry$Row;") (by decide +kernel)) (fun _ h9 => h9) rfl dX1_makeRoom_60 ?_
            have hPc := hP.sub (ws' := [(r2, .inr (0, [.ref j2, .int (nI L2.length)])), (j2, .inl (cI, 30, .inl f2))]) [7, 8] rfl
            have hDc := hD.sub (ws' := [(r2, .inr (0, [.ref j2, .int (nI L2.length)])), (j2, .inl (cI, 30, .inl f2))]) [7, 8] (by decide) rfl
            have hKc := hK.sub (tys' := [(cI, .int)]) [0] rfl
            have hFc := va_free (wc := [(r2, .inr (0, [.ref j2, .int (nI L2.length)])), (j2, .inl (cI, 30, .inl f2))]) hD hS hA [7, 8] rfl
            refine va_calli (va_runV (As := []) (rest := []) ⟨hx, hb, hml, hown, hts⟩ (c_X0_length l G cI r2 j2 f2 L2 hR2 (by omega)  H4.size) (cwV 0 hts gX1_makeRoom_X0_length rfl rfl rfl (by decide +kernel) ⟨Nat.le_of_ble_eq_true rfl, Nat.le_of_ble_eq_true rfl⟩) (g_preV (As := []) hPc hKc hDc 0 rfl rfl) rfl rfl hl.1 rfl (lv_room (Nat.le_of_ble_eq_true rfl)) dX1_makeRoom_63 ⟨(Nat.le_of_ble_eq_true rfl), (Nat.le_of_ble_eq_true rfl)⟩) hS (fun q _ h => hFc q h) hFc (fun r81 u82 t H80 locs ht hvm hw hB hz1 hk1 hS1 => ?_)
            subst hw
            obtain ⟨hP1, hD1⟩ := g_join (wc := [(r2, .inr (0, [.ref j2, .int (nI L2.length)])), (j2, .inl (cI, 30, .inl f2))]) (wr := [(sh, .inr (1, [.ref r1, .ref r2, .ref r3, .ref r4, .int (nI rc), .int (nI bo), .int lv])), (r3, .inr (0, [.ref j3, .int (nI L3.length)])), (j3, .inl (cI, 30, .inl f3)), (r4, .inr (0, [.ref j4, .int (nI L4.length)])), (j4, .inl (cI, 30, .inl f4)), (r1, .inr (0, [.ref j1, .int (nI L1.length)])), (j1, .inl (cI, 30, .inl f1))]) (w1 := [(r2, .inr (0, [.ref j2, .int (nI L2.length)])), (j2, .inl (cI, 30, .inl f2))]) hP hD [7, 8] [0, 1, 2, 3, 4, 5, 6] rfl rfl (by decide) (by decide) ht hk1 hFc hB
            clear hB hk1 hz1 hvm ht hPc hDc hKc hFc
            clear hP hD hS
            have hP : va_P G vwCl [(sh, .inr (1, [.ref r1, .ref r2, .ref r3, .ref r4, .int (nI rc), .int (nI bo), .int lv])), (r3, .inr (0, [.ref j3, .int (nI L3.length)])), (j3, .inl (cI, 30, .inl f3)), (r4, .inr (0, [.ref j4, .int (nI L4.length)])), (j4, .inl (cI, 30, .inl f4)), (r1, .inr (0, [.ref j1, .int (nI L1.length)])), (j1, .inl (cI, 30, .inl f1)), (r2, .inr (0, [.ref j2, .int (nI L2.length)])), (j2, .inl (cI, 30, .inl f2))] H80 := hP1
            have hD : va_D A [(sh, .inr (1, [.ref r1, .ref r2, .ref r3, .ref r4, .int (nI rc), .int (nI bo), .int lv])), (r3, .inr (0, [.ref j3, .int (nI L3.length)])), (j3, .inl (cI, 30, .inl f3)), (r4, .inr (0, [.ref j4, .int (nI L4.length)])), (j4, .inl (cI, 30, .inl f4)), (r1, .inr (0, [.ref j1, .int (nI L1.length)])), (j1, .inl (cI, 30, .inl f1)), (r2, .inr (0, [.ref j2, .int (nI L2.length)])), (j2, .inl (cI, 30, .inl f2))] := hD1
            have hS := hS1
            clear hP1 hD1 hS1
            refine g_if_ne (tgt := 73) hx hb dX1_makeRoom_66 (by decide) (by omega) (fun c83 => ?_) (fun c83 => False.elim (by omega))
            refine lv_iconst (v := (nI 0)) hx hb dX1_makeRoom_73 (by decide +kernel) ?_
            refine lv_istore (lv' := [(4, .int (nI 0)), (3, .int (nI 0)), (2, .int (nI L1.length)), (0, .ref sh), (1, .int (nI ff.toNat))]) hx hb dX1_makeRoom_74 hl (by decide) rfl (fun ls hl => ?_)
            refine lv_iload hx hb dX1_makeRoom_76 (lv_at hl 0 rfl) ?_
            refine g_if_eq (tgt := 88) hx hb dX1_makeRoom_78 (by decide) (by decide) (fun c84 => ?_) (fun c84 => False.elim (by omega))
            refine lv_aload_n hx hb dX1_makeRoom_88 rfl (lv_at hl 3 rfl) ?_
            refine va_get (D := G) (ci := 1) (v := .ref r2) (C := RX1) (T := TX1) (N := 7) hx hb hts iX1_makeRoom_X1 hown hK hP 0 rfl rfl 1 (by decide) (hts (.fieldLink RX1 20 "GhostPantry$Shelves" "frequent" "LGhostPantry$Row;") (by decide +kernel)) (fun _ h9 => h9) rfl dX1_makeRoom_89 ?_
            refine lv_astore (lv' := [(5, .ref r2), (4, .int (nI 0)), (3, .int (nI 0)), (2, .int (nI L1.length)), (0, .ref sh), (1, .int (nI ff.toNat))]) hx hb dX1_makeRoom_92 hl (by decide) rfl (fun ls hl => ?_)
            refine lv_iload hx hb dX1_makeRoom_94 (lv_at hl 1 rfl) ?_
            refine g_if_eq (tgt := 106) hx hb dX1_makeRoom_96 (by decide) (by decide) (fun c85 => ?_) (fun c85 => False.elim (by omega))
            refine lv_aload_n hx hb dX1_makeRoom_106 rfl (lv_at hl 4 rfl) ?_
            refine va_get (D := G) (ci := 1) (v := .ref r4) (C := RX1) (T := TX1) (N := 7) hx hb hts iX1_makeRoom_X1 hown hK hP 0 rfl rfl 3 (by decide) (hts (.fieldLink RX1 26 "GhostPantry$Shelves" "frequentGhosts" "LGhostPantry$Row;") (by decide +kernel)) (fun _ h9 => h9) rfl dX1_makeRoom_107 ?_
            refine lv_astore (lv' := [(6, .ref r4), (5, .ref r2), (4, .int (nI 0)), (3, .int (nI 0)), (2, .int (nI L1.length)), (0, .ref sh), (1, .int (nI ff.toNat))]) hx hb dX1_makeRoom_110 hl (by decide) rfl (fun ls hl => ?_)
            refine lv_aload_n hx hb dX1_makeRoom_112 rfl (lv_at hl 5 rfl) ?_
            refine lv_aload hx hb dX1_makeRoom_113 (lv_at hl 1 rfl) ?_
            have hPc := hP.sub (ws' := [(r2, .inr (0, [.ref j2, .int (nI L2.length)])), (j2, .inl (cI, 30, .inl f2))]) [7, 8] rfl
            have hDc := hD.sub (ws' := [(r2, .inr (0, [.ref j2, .int (nI L2.length)])), (j2, .inl (cI, 30, .inl f2))]) [7, 8] (by decide) rfl
            have hKc := hK.sub (tys' := [(cI, .int)]) [0] rfl
            have hFc := va_free (wc := [(r2, .inr (0, [.ref j2, .int (nI L2.length)])), (j2, .inl (cI, 30, .inl f2))]) hD hS hA [7, 8] rfl
            refine va_calli (va_runV (As := []) (rest := [.ref sh]) ⟨hx, hb, hml, hown, hts⟩ (c_X0_takeLast l G cI r2 j2 f2 L2 hR2 (by omega) (by omega) H80.size) (cwV 0 hts gX1_makeRoom_X0_takeLast rfl rfl rfl (by decide +kernel) ⟨Nat.le_of_ble_eq_true rfl, Nat.le_of_ble_eq_true rfl⟩) (g_preV (As := []) hPc hKc hDc 0 rfl rfl) rfl rfl hl.1 rfl (lv_room (Nat.le_of_ble_eq_true rfl)) dX1_makeRoom_115 ⟨(Nat.le_of_ble_eq_true rfl), (Nat.le_of_ble_eq_true rfl)⟩) hS (fun q _ h => hFc q h) hFc (fun r89 u90 t H88 locs ht hvm hw hB hz1 hk1 hS1 => ?_)
            subst hw
            obtain ⟨f86, hf87, hB⟩ := hB
            obtain ⟨hP1, hD1⟩ := g_join (wc := [(r2, .inr (0, [.ref j2, .int (nI L2.length)])), (j2, .inl (cI, 30, .inl f2))]) (wr := [(sh, .inr (1, [.ref r1, .ref r2, .ref r3, .ref r4, .int (nI rc), .int (nI bo), .int lv])), (r3, .inr (0, [.ref j3, .int (nI L3.length)])), (j3, .inl (cI, 30, .inl f3)), (r4, .inr (0, [.ref j4, .int (nI L4.length)])), (j4, .inl (cI, 30, .inl f4)), (r1, .inr (0, [.ref j1, .int (nI L1.length)])), (j1, .inl (cI, 30, .inl f1))]) (w1 := [(r2, .inr (0, [.ref j2, .int (nI L2.dropLast.length)])), (j2, .inl (cI, 30, .inl f86))]) hP hD [7, 8] [0, 1, 2, 3, 4, 5, 6] rfl rfl (by decide) (by decide) ht hk1 hFc hB
            clear hB hk1 hz1 hvm ht hPc hDc hKc hFc
            clear hP hD hS
            have hP : va_P G vwCl [(sh, .inr (1, [.ref r1, .ref r2, .ref r3, .ref r4, .int (nI rc), .int (nI bo), .int lv])), (r3, .inr (0, [.ref j3, .int (nI L3.length)])), (j3, .inl (cI, 30, .inl f3)), (r4, .inr (0, [.ref j4, .int (nI L4.length)])), (j4, .inl (cI, 30, .inl f4)), (r1, .inr (0, [.ref j1, .int (nI L1.length)])), (j1, .inl (cI, 30, .inl f1)), (r2, .inr (0, [.ref j2, .int (nI L2.dropLast.length)])), (j2, .inl (cI, 30, .inl f86))] H88 := hP1
            have hD : va_D A [(sh, .inr (1, [.ref r1, .ref r2, .ref r3, .ref r4, .int (nI rc), .int (nI bo), .int lv])), (r3, .inr (0, [.ref j3, .int (nI L3.length)])), (j3, .inl (cI, 30, .inl f3)), (r4, .inr (0, [.ref j4, .int (nI L4.length)])), (j4, .inl (cI, 30, .inl f4)), (r1, .inr (0, [.ref j1, .int (nI L1.length)])), (j1, .inl (cI, 30, .inl f1)), (r2, .inr (0, [.ref j2, .int (nI L2.dropLast.length)])), (j2, .inl (cI, 30, .inl f86))] := hD1
            have hS := hS1
            clear hP1 hD1 hS1
            refine va_put (D := G) (ci := 1) (v := .int (lst L2)) (ty := .int) (C := RX1) (T := TX1) (N := 7) hx hb hts iX1_makeRoom_X1 tyX1 tyX1_ok nmX1 hown hK hP hD hS 0 rfl rfl 6 (by decide) (hts (.fieldLink RX1 36 "GhostPantry$Shelves" "leaver" "I") (by decide +kernel)) (fun _ h9 => h9) rfl (by decide +kernel) rfl rfl (Nat.le_of_ble_eq_true rfl) dX1_makeRoom_118 (fun H91 locs hP1 hD1 hS1 => ?_)
            clear hP hD hS
            have hP : va_P G vwCl [(sh, .inr (1, [.ref r1, .ref r2, .ref r3, .ref r4, .int (nI rc), .int (nI bo), .int (lst L2)])), (r3, .inr (0, [.ref j3, .int (nI L3.length)])), (j3, .inl (cI, 30, .inl f3)), (r4, .inr (0, [.ref j4, .int (nI L4.length)])), (j4, .inl (cI, 30, .inl f4)), (r1, .inr (0, [.ref j1, .int (nI L1.length)])), (j1, .inl (cI, 30, .inl f1)), (r2, .inr (0, [.ref j2, .int (nI L2.dropLast.length)])), (j2, .inl (cI, 30, .inl f86))] H91 := hP1
            have hD : va_D A [(sh, .inr (1, [.ref r1, .ref r2, .ref r3, .ref r4, .int (nI rc), .int (nI bo), .int (lst L2)])), (r3, .inr (0, [.ref j3, .int (nI L3.length)])), (j3, .inl (cI, 30, .inl f3)), (r4, .inr (0, [.ref j4, .int (nI L4.length)])), (j4, .inl (cI, 30, .inl f4)), (r1, .inr (0, [.ref j1, .int (nI L1.length)])), (j1, .inl (cI, 30, .inl f1)), (r2, .inr (0, [.ref j2, .int (nI L2.dropLast.length)])), (j2, .inl (cI, 30, .inl f86))] := hD1
            have hS := hS1
            clear hP1 hD1 hS1
            refine lv_aload_n hx hb dX1_makeRoom_121 rfl (lv_at hl 5 rfl) ?_
            refine va_get (D := G) (ci := 1) (v := .int (lst L2)) (C := RX1) (T := TX1) (N := 7) hx hb hts iX1_makeRoom_X1 hown hK hP 0 rfl rfl 6 (by decide) (hts (.fieldLink RX1 36 "GhostPantry$Shelves" "leaver" "I") (by decide +kernel)) (fun _ h9 => h9) rfl dX1_makeRoom_122 ?_
            refine lv_iconst (v := (-1)) hx hb dX1_makeRoom_125 (by decide +kernel) ?_
            refine lv_icmp_eq (tgt := 138) hx hb dX1_makeRoom_126 (by decide) (fun c92 => False.elim (by exact ok_ne (ok_lst hj2 (by omega)) c92)) (fun c92 => ?_)
            refine lv_aload hx hb dX1_makeRoom_129 (lv_at hl 0 rfl) ?_
            refine lv_aload_n hx hb dX1_makeRoom_131 rfl (lv_at hl 5 rfl) ?_
            refine va_get (D := G) (ci := 1) (v := .int (lst L2)) (C := RX1) (T := TX1) (N := 7) hx hb hts iX1_makeRoom_X1 hown hK hP 0 rfl rfl 6 (by decide) (hts (.fieldLink RX1 36 "GhostPantry$Shelves" "leaver" "I") (by decide +kernel)) (fun _ h9 => h9) rfl dX1_makeRoom_132 ?_
            have hPc := hP.sub (ws' := [(r4, .inr (0, [.ref j4, .int (nI L4.length)])), (j4, .inl (cI, 30, .inl f4))]) [3, 4] rfl
            have hDc := hD.sub (ws' := [(r4, .inr (0, [.ref j4, .int (nI L4.length)])), (j4, .inl (cI, 30, .inl f4))]) [3, 4] (by decide) rfl
            have hKc := hK.sub (tys' := [(cI, .int)]) [0] rfl
            have hFc := va_free (wc := [(r4, .inr (0, [.ref j4, .int (nI L4.length)])), (j4, .inl (cI, 30, .inl f4))]) hD hS hA [3, 4] rfl
            refine va_callv (va_runV (As := [.int (lst L2)]) (rest := []) ⟨hx, hb, hml, hown, hts⟩ (c_X0_putFirst l G cI r4 j4 f4 L4 hR4 (by omega) (lst L2) (by omega) H91.size) (cwV 1 hts gX1_makeRoom_X0_putFirst rfl rfl rfl (by decide +kernel) ⟨Nat.le_of_ble_eq_true rfl, Nat.le_of_ble_eq_true rfl⟩) (g_preV (As := [.int (lst L2)]) hPc hKc hDc 0 rfl rfl) rfl rfl hl.1 rfl (lv_room (Nat.le_of_ble_eq_true rfl)) dX1_makeRoom_135 ⟨(Nat.le_of_ble_eq_true rfl), (Nat.le_of_ble_eq_true rfl)⟩) hS (fun q _ h => hFc q h) hFc (fun u97 t H95 locs ht hvm hw hB hz1 hk1 hS1 => ?_)
            obtain ⟨f93, hf94, hB⟩ := hB
            obtain ⟨hP1, hD1⟩ := g_join (wc := [(r4, .inr (0, [.ref j4, .int (nI L4.length)])), (j4, .inl (cI, 30, .inl f4))]) (wr := [(sh, .inr (1, [.ref r1, .ref r2, .ref r3, .ref r4, .int (nI rc), .int (nI bo), .int (lst L2)])), (r3, .inr (0, [.ref j3, .int (nI L3.length)])), (j3, .inl (cI, 30, .inl f3)), (r1, .inr (0, [.ref j1, .int (nI L1.length)])), (j1, .inl (cI, 30, .inl f1)), (r2, .inr (0, [.ref j2, .int (nI L2.dropLast.length)])), (j2, .inl (cI, 30, .inl f86))]) (w1 := [(r4, .inr (0, [.ref j4, .int (nI (((lst L2) :: L4).length))])), (j4, .inl (cI, 30, .inl f93))]) hP hD [3, 4] [0, 1, 2, 5, 6, 7, 8] rfl rfl (by decide) (by decide) ht hk1 hFc hB
            clear hB hk1 hz1 hvm ht hPc hDc hKc hFc
            clear hP hD hS
            have hP : va_P G vwCl [(sh, .inr (1, [.ref r1, .ref r2, .ref r3, .ref r4, .int (nI rc), .int (nI bo), .int (lst L2)])), (r3, .inr (0, [.ref j3, .int (nI L3.length)])), (j3, .inl (cI, 30, .inl f3)), (r1, .inr (0, [.ref j1, .int (nI L1.length)])), (j1, .inl (cI, 30, .inl f1)), (r2, .inr (0, [.ref j2, .int (nI L2.dropLast.length)])), (j2, .inl (cI, 30, .inl f86)), (r4, .inr (0, [.ref j4, .int (nI (((lst L2) :: L4).length))])), (j4, .inl (cI, 30, .inl f93))] H95 := hP1
            have hD : va_D A [(sh, .inr (1, [.ref r1, .ref r2, .ref r3, .ref r4, .int (nI rc), .int (nI bo), .int (lst L2)])), (r3, .inr (0, [.ref j3, .int (nI L3.length)])), (j3, .inl (cI, 30, .inl f3)), (r1, .inr (0, [.ref j1, .int (nI L1.length)])), (j1, .inl (cI, 30, .inl f1)), (r2, .inr (0, [.ref j2, .int (nI L2.dropLast.length)])), (j2, .inl (cI, 30, .inl f86)), (r4, .inr (0, [.ref j4, .int (nI (((lst L2) :: L4).length))])), (j4, .inl (cI, 30, .inl f93))] := hD1
            have hS := hS1
            clear hP1 hD1 hS1
            have hP9 := hP.sub (ws' := [(sh, .inr (1, [.ref r1, .ref r2, .ref r3, .ref r4, .int (nI rc), .int (nI bo), .int (lst L2)])), (r1, .inr (0, [.ref j1, .int (nI L1.length)])), (j1, .inl (cI, 30, .inl f1)), (r2, .inr (0, [.ref j2, .int (nI L2.dropLast.length)])), (j2, .inl (cI, 30, .inl f86)), (r3, .inr (0, [.ref j3, .int (nI L3.length)])), (j3, .inl (cI, 30, .inl f3)), (r4, .inr (0, [.ref j4, .int (nI (((lst L2) :: L4).length))])), (j4, .inl (cI, 30, .inl f93))]) [0, 3, 4, 5, 6, 1, 2, 7, 8] rfl
            have hD9 := hD.sub (ws' := [(sh, .inr (1, [.ref r1, .ref r2, .ref r3, .ref r4, .int (nI rc), .int (nI bo), .int (lst L2)])), (r1, .inr (0, [.ref j1, .int (nI L1.length)])), (j1, .inl (cI, 30, .inl f1)), (r2, .inr (0, [.ref j2, .int (nI L2.dropLast.length)])), (j2, .inl (cI, 30, .inl f86)), (r3, .inr (0, [.ref j3, .int (nI L3.length)])), (j3, .inl (cI, 30, .inl f3)), (r4, .inr (0, [.ref j4, .int (nI (((lst L2) :: L4).length))])), (j4, .inl (cI, 30, .inl f93))]) [0, 3, 4, 5, 6, 1, 2, 7, 8] (by decide) rfl
            exact W.vret hx hb hr (fun t ht hW => ⟨⟨((L1, L2.dropLast, L3, ((lst L2) :: L4)), (lst L2)), rfl, (room_c (by omega) (fun z => by rcases z with ⟨z1, (z2 | ⟨z2, z3⟩) | z2⟩ <;> first | omega | (exact absurd z3 (by rw [hff]; decide))) lv), _, _, _, _, hR1, hf87, hR3, hf94, g_at hP9 hK hD9 ht hW⟩, hS.F ht⟩) hS.2.2 dX1_makeRoom_138
          · refine lv_iload_n hx hb dX1_makeRoom_55 rfl (lv_at hl 0 rfl) ?_
            refine g_if_ne (tgt := 69) hx hb dX1_makeRoom_56 (by decide) (by decide) (fun c98 => False.elim (by omega)) (fun c98 => ?_)
            refine lv_aload_n hx hb dX1_makeRoom_59 rfl (lv_at hl 2 rfl) ?_
            refine va_get (D := G) (ci := 1) (v := .ref r2) (C := RX1) (T := TX1) (N := 7) hx hb hts iX1_makeRoom_X1 hown hK hP 0 rfl rfl 1 (by decide) (hts (.fieldLink RX1 20 "GhostPantry$Shelves" "frequent" "LGhostPantry$Row;") (by decide +kernel)) (fun _ h9 => h9) rfl dX1_makeRoom_60 ?_
            have hPc := hP.sub (ws' := [(r2, .inr (0, [.ref j2, .int (nI L2.length)])), (j2, .inl (cI, 30, .inl f2))]) [7, 8] rfl
            have hDc := hD.sub (ws' := [(r2, .inr (0, [.ref j2, .int (nI L2.length)])), (j2, .inl (cI, 30, .inl f2))]) [7, 8] (by decide) rfl
            have hKc := hK.sub (tys' := [(cI, .int)]) [0] rfl
            have hFc := va_free (wc := [(r2, .inr (0, [.ref j2, .int (nI L2.length)])), (j2, .inl (cI, 30, .inl f2))]) hD hS hA [7, 8] rfl
            refine va_calli (va_runV (As := []) (rest := []) ⟨hx, hb, hml, hown, hts⟩ (c_X0_length l G cI r2 j2 f2 L2 hR2 (by omega)  H4.size) (cwV 0 hts gX1_makeRoom_X0_length rfl rfl rfl (by decide +kernel) ⟨Nat.le_of_ble_eq_true rfl, Nat.le_of_ble_eq_true rfl⟩) (g_preV (As := []) hPc hKc hDc 0 rfl rfl) rfl rfl hl.1 rfl (lv_room (Nat.le_of_ble_eq_true rfl)) dX1_makeRoom_63 ⟨(Nat.le_of_ble_eq_true rfl), (Nat.le_of_ble_eq_true rfl)⟩) hS (fun q _ h => hFc q h) hFc (fun r100 u101 t H99 locs ht hvm hw hB hz1 hk1 hS1 => ?_)
            subst hw
            obtain ⟨hP1, hD1⟩ := g_join (wc := [(r2, .inr (0, [.ref j2, .int (nI L2.length)])), (j2, .inl (cI, 30, .inl f2))]) (wr := [(sh, .inr (1, [.ref r1, .ref r2, .ref r3, .ref r4, .int (nI rc), .int (nI bo), .int lv])), (r3, .inr (0, [.ref j3, .int (nI L3.length)])), (j3, .inl (cI, 30, .inl f3)), (r4, .inr (0, [.ref j4, .int (nI L4.length)])), (j4, .inl (cI, 30, .inl f4)), (r1, .inr (0, [.ref j1, .int (nI L1.length)])), (j1, .inl (cI, 30, .inl f1))]) (w1 := [(r2, .inr (0, [.ref j2, .int (nI L2.length)])), (j2, .inl (cI, 30, .inl f2))]) hP hD [7, 8] [0, 1, 2, 3, 4, 5, 6] rfl rfl (by decide) (by decide) ht hk1 hFc hB
            clear hB hk1 hz1 hvm ht hPc hDc hKc hFc
            clear hP hD hS
            have hP : va_P G vwCl [(sh, .inr (1, [.ref r1, .ref r2, .ref r3, .ref r4, .int (nI rc), .int (nI bo), .int lv])), (r3, .inr (0, [.ref j3, .int (nI L3.length)])), (j3, .inl (cI, 30, .inl f3)), (r4, .inr (0, [.ref j4, .int (nI L4.length)])), (j4, .inl (cI, 30, .inl f4)), (r1, .inr (0, [.ref j1, .int (nI L1.length)])), (j1, .inl (cI, 30, .inl f1)), (r2, .inr (0, [.ref j2, .int (nI L2.length)])), (j2, .inl (cI, 30, .inl f2))] H99 := hP1
            have hD : va_D A [(sh, .inr (1, [.ref r1, .ref r2, .ref r3, .ref r4, .int (nI rc), .int (nI bo), .int lv])), (r3, .inr (0, [.ref j3, .int (nI L3.length)])), (j3, .inl (cI, 30, .inl f3)), (r4, .inr (0, [.ref j4, .int (nI L4.length)])), (j4, .inl (cI, 30, .inl f4)), (r1, .inr (0, [.ref j1, .int (nI L1.length)])), (j1, .inl (cI, 30, .inl f1)), (r2, .inr (0, [.ref j2, .int (nI L2.length)])), (j2, .inl (cI, 30, .inl f2))] := hD1
            have hS := hS1
            clear hP1 hD1 hS1
            refine g_if_ne (tgt := 73) hx hb dX1_makeRoom_66 (by decide) (by omega) (fun c102 => ?_) (fun c102 => ?_)
            · refine lv_iconst (v := (nI 0)) hx hb dX1_makeRoom_73 (by decide +kernel) ?_
              refine lv_istore (lv' := [(4, .int (nI 0)), (3, .int (nI 0)), (2, .int (nI L1.length)), (0, .ref sh), (1, .int (nI ff.toNat))]) hx hb dX1_makeRoom_74 hl (by decide) rfl (fun ls hl => ?_)
              refine lv_iload hx hb dX1_makeRoom_76 (lv_at hl 0 rfl) ?_
              refine g_if_eq (tgt := 88) hx hb dX1_makeRoom_78 (by decide) (by decide) (fun c103 => ?_) (fun c103 => False.elim (by omega))
              refine lv_aload_n hx hb dX1_makeRoom_88 rfl (lv_at hl 3 rfl) ?_
              refine va_get (D := G) (ci := 1) (v := .ref r2) (C := RX1) (T := TX1) (N := 7) hx hb hts iX1_makeRoom_X1 hown hK hP 0 rfl rfl 1 (by decide) (hts (.fieldLink RX1 20 "GhostPantry$Shelves" "frequent" "LGhostPantry$Row;") (by decide +kernel)) (fun _ h9 => h9) rfl dX1_makeRoom_89 ?_
              refine lv_astore (lv' := [(5, .ref r2), (4, .int (nI 0)), (3, .int (nI 0)), (2, .int (nI L1.length)), (0, .ref sh), (1, .int (nI ff.toNat))]) hx hb dX1_makeRoom_92 hl (by decide) rfl (fun ls hl => ?_)
              refine lv_iload hx hb dX1_makeRoom_94 (lv_at hl 1 rfl) ?_
              refine g_if_eq (tgt := 106) hx hb dX1_makeRoom_96 (by decide) (by decide) (fun c104 => ?_) (fun c104 => False.elim (by omega))
              refine lv_aload_n hx hb dX1_makeRoom_106 rfl (lv_at hl 4 rfl) ?_
              refine va_get (D := G) (ci := 1) (v := .ref r4) (C := RX1) (T := TX1) (N := 7) hx hb hts iX1_makeRoom_X1 hown hK hP 0 rfl rfl 3 (by decide) (hts (.fieldLink RX1 26 "GhostPantry$Shelves" "frequentGhosts" "LGhostPantry$Row;") (by decide +kernel)) (fun _ h9 => h9) rfl dX1_makeRoom_107 ?_
              refine lv_astore (lv' := [(6, .ref r4), (5, .ref r2), (4, .int (nI 0)), (3, .int (nI 0)), (2, .int (nI L1.length)), (0, .ref sh), (1, .int (nI ff.toNat))]) hx hb dX1_makeRoom_110 hl (by decide) rfl (fun ls hl => ?_)
              refine lv_aload_n hx hb dX1_makeRoom_112 rfl (lv_at hl 5 rfl) ?_
              refine lv_aload hx hb dX1_makeRoom_113 (lv_at hl 1 rfl) ?_
              have hPc := hP.sub (ws' := [(r2, .inr (0, [.ref j2, .int (nI L2.length)])), (j2, .inl (cI, 30, .inl f2))]) [7, 8] rfl
              have hDc := hD.sub (ws' := [(r2, .inr (0, [.ref j2, .int (nI L2.length)])), (j2, .inl (cI, 30, .inl f2))]) [7, 8] (by decide) rfl
              have hKc := hK.sub (tys' := [(cI, .int)]) [0] rfl
              have hFc := va_free (wc := [(r2, .inr (0, [.ref j2, .int (nI L2.length)])), (j2, .inl (cI, 30, .inl f2))]) hD hS hA [7, 8] rfl
              refine va_calli (va_runV (As := []) (rest := [.ref sh]) ⟨hx, hb, hml, hown, hts⟩ (c_X0_takeLast l G cI r2 j2 f2 L2 hR2 (by omega) (by omega) H99.size) (cwV 0 hts gX1_makeRoom_X0_takeLast rfl rfl rfl (by decide +kernel) ⟨Nat.le_of_ble_eq_true rfl, Nat.le_of_ble_eq_true rfl⟩) (g_preV (As := []) hPc hKc hDc 0 rfl rfl) rfl rfl hl.1 rfl (lv_room (Nat.le_of_ble_eq_true rfl)) dX1_makeRoom_115 ⟨(Nat.le_of_ble_eq_true rfl), (Nat.le_of_ble_eq_true rfl)⟩) hS (fun q _ h => hFc q h) hFc (fun r108 u109 t H107 locs ht hvm hw hB hz1 hk1 hS1 => ?_)
              subst hw
              obtain ⟨f105, hf106, hB⟩ := hB
              obtain ⟨hP1, hD1⟩ := g_join (wc := [(r2, .inr (0, [.ref j2, .int (nI L2.length)])), (j2, .inl (cI, 30, .inl f2))]) (wr := [(sh, .inr (1, [.ref r1, .ref r2, .ref r3, .ref r4, .int (nI rc), .int (nI bo), .int lv])), (r3, .inr (0, [.ref j3, .int (nI L3.length)])), (j3, .inl (cI, 30, .inl f3)), (r4, .inr (0, [.ref j4, .int (nI L4.length)])), (j4, .inl (cI, 30, .inl f4)), (r1, .inr (0, [.ref j1, .int (nI L1.length)])), (j1, .inl (cI, 30, .inl f1))]) (w1 := [(r2, .inr (0, [.ref j2, .int (nI L2.dropLast.length)])), (j2, .inl (cI, 30, .inl f105))]) hP hD [7, 8] [0, 1, 2, 3, 4, 5, 6] rfl rfl (by decide) (by decide) ht hk1 hFc hB
              clear hB hk1 hz1 hvm ht hPc hDc hKc hFc
              clear hP hD hS
              have hP : va_P G vwCl [(sh, .inr (1, [.ref r1, .ref r2, .ref r3, .ref r4, .int (nI rc), .int (nI bo), .int lv])), (r3, .inr (0, [.ref j3, .int (nI L3.length)])), (j3, .inl (cI, 30, .inl f3)), (r4, .inr (0, [.ref j4, .int (nI L4.length)])), (j4, .inl (cI, 30, .inl f4)), (r1, .inr (0, [.ref j1, .int (nI L1.length)])), (j1, .inl (cI, 30, .inl f1)), (r2, .inr (0, [.ref j2, .int (nI L2.dropLast.length)])), (j2, .inl (cI, 30, .inl f105))] H107 := hP1
              have hD : va_D A [(sh, .inr (1, [.ref r1, .ref r2, .ref r3, .ref r4, .int (nI rc), .int (nI bo), .int lv])), (r3, .inr (0, [.ref j3, .int (nI L3.length)])), (j3, .inl (cI, 30, .inl f3)), (r4, .inr (0, [.ref j4, .int (nI L4.length)])), (j4, .inl (cI, 30, .inl f4)), (r1, .inr (0, [.ref j1, .int (nI L1.length)])), (j1, .inl (cI, 30, .inl f1)), (r2, .inr (0, [.ref j2, .int (nI L2.dropLast.length)])), (j2, .inl (cI, 30, .inl f105))] := hD1
              have hS := hS1
              clear hP1 hD1 hS1
              refine va_put (D := G) (ci := 1) (v := .int (lst L2)) (ty := .int) (C := RX1) (T := TX1) (N := 7) hx hb hts iX1_makeRoom_X1 tyX1 tyX1_ok nmX1 hown hK hP hD hS 0 rfl rfl 6 (by decide) (hts (.fieldLink RX1 36 "GhostPantry$Shelves" "leaver" "I") (by decide +kernel)) (fun _ h9 => h9) rfl (by decide +kernel) rfl rfl (Nat.le_of_ble_eq_true rfl) dX1_makeRoom_118 (fun H110 locs hP1 hD1 hS1 => ?_)
              clear hP hD hS
              have hP : va_P G vwCl [(sh, .inr (1, [.ref r1, .ref r2, .ref r3, .ref r4, .int (nI rc), .int (nI bo), .int (lst L2)])), (r3, .inr (0, [.ref j3, .int (nI L3.length)])), (j3, .inl (cI, 30, .inl f3)), (r4, .inr (0, [.ref j4, .int (nI L4.length)])), (j4, .inl (cI, 30, .inl f4)), (r1, .inr (0, [.ref j1, .int (nI L1.length)])), (j1, .inl (cI, 30, .inl f1)), (r2, .inr (0, [.ref j2, .int (nI L2.dropLast.length)])), (j2, .inl (cI, 30, .inl f105))] H110 := hP1
              have hD : va_D A [(sh, .inr (1, [.ref r1, .ref r2, .ref r3, .ref r4, .int (nI rc), .int (nI bo), .int (lst L2)])), (r3, .inr (0, [.ref j3, .int (nI L3.length)])), (j3, .inl (cI, 30, .inl f3)), (r4, .inr (0, [.ref j4, .int (nI L4.length)])), (j4, .inl (cI, 30, .inl f4)), (r1, .inr (0, [.ref j1, .int (nI L1.length)])), (j1, .inl (cI, 30, .inl f1)), (r2, .inr (0, [.ref j2, .int (nI L2.dropLast.length)])), (j2, .inl (cI, 30, .inl f105))] := hD1
              have hS := hS1
              clear hP1 hD1 hS1
              refine lv_aload_n hx hb dX1_makeRoom_121 rfl (lv_at hl 5 rfl) ?_
              refine va_get (D := G) (ci := 1) (v := .int (lst L2)) (C := RX1) (T := TX1) (N := 7) hx hb hts iX1_makeRoom_X1 hown hK hP 0 rfl rfl 6 (by decide) (hts (.fieldLink RX1 36 "GhostPantry$Shelves" "leaver" "I") (by decide +kernel)) (fun _ h9 => h9) rfl dX1_makeRoom_122 ?_
              refine lv_iconst (v := (-1)) hx hb dX1_makeRoom_125 (by decide +kernel) ?_
              refine lv_icmp_eq (tgt := 138) hx hb dX1_makeRoom_126 (by decide) (fun c111 => False.elim (by exact ok_ne (ok_lst hj2 (by omega)) c111)) (fun c111 => ?_)
              refine lv_aload hx hb dX1_makeRoom_129 (lv_at hl 0 rfl) ?_
              refine lv_aload_n hx hb dX1_makeRoom_131 rfl (lv_at hl 5 rfl) ?_
              refine va_get (D := G) (ci := 1) (v := .int (lst L2)) (C := RX1) (T := TX1) (N := 7) hx hb hts iX1_makeRoom_X1 hown hK hP 0 rfl rfl 6 (by decide) (hts (.fieldLink RX1 36 "GhostPantry$Shelves" "leaver" "I") (by decide +kernel)) (fun _ h9 => h9) rfl dX1_makeRoom_132 ?_
              have hPc := hP.sub (ws' := [(r4, .inr (0, [.ref j4, .int (nI L4.length)])), (j4, .inl (cI, 30, .inl f4))]) [3, 4] rfl
              have hDc := hD.sub (ws' := [(r4, .inr (0, [.ref j4, .int (nI L4.length)])), (j4, .inl (cI, 30, .inl f4))]) [3, 4] (by decide) rfl
              have hKc := hK.sub (tys' := [(cI, .int)]) [0] rfl
              have hFc := va_free (wc := [(r4, .inr (0, [.ref j4, .int (nI L4.length)])), (j4, .inl (cI, 30, .inl f4))]) hD hS hA [3, 4] rfl
              refine va_callv (va_runV (As := [.int (lst L2)]) (rest := []) ⟨hx, hb, hml, hown, hts⟩ (c_X0_putFirst l G cI r4 j4 f4 L4 hR4 (by omega) (lst L2) (by omega) H110.size) (cwV 1 hts gX1_makeRoom_X0_putFirst rfl rfl rfl (by decide +kernel) ⟨Nat.le_of_ble_eq_true rfl, Nat.le_of_ble_eq_true rfl⟩) (g_preV (As := [.int (lst L2)]) hPc hKc hDc 0 rfl rfl) rfl rfl hl.1 rfl (lv_room (Nat.le_of_ble_eq_true rfl)) dX1_makeRoom_135 ⟨(Nat.le_of_ble_eq_true rfl), (Nat.le_of_ble_eq_true rfl)⟩) hS (fun q _ h => hFc q h) hFc (fun u116 t H114 locs ht hvm hw hB hz1 hk1 hS1 => ?_)
              obtain ⟨f112, hf113, hB⟩ := hB
              obtain ⟨hP1, hD1⟩ := g_join (wc := [(r4, .inr (0, [.ref j4, .int (nI L4.length)])), (j4, .inl (cI, 30, .inl f4))]) (wr := [(sh, .inr (1, [.ref r1, .ref r2, .ref r3, .ref r4, .int (nI rc), .int (nI bo), .int (lst L2)])), (r3, .inr (0, [.ref j3, .int (nI L3.length)])), (j3, .inl (cI, 30, .inl f3)), (r1, .inr (0, [.ref j1, .int (nI L1.length)])), (j1, .inl (cI, 30, .inl f1)), (r2, .inr (0, [.ref j2, .int (nI L2.dropLast.length)])), (j2, .inl (cI, 30, .inl f105))]) (w1 := [(r4, .inr (0, [.ref j4, .int (nI (((lst L2) :: L4).length))])), (j4, .inl (cI, 30, .inl f112))]) hP hD [3, 4] [0, 1, 2, 5, 6, 7, 8] rfl rfl (by decide) (by decide) ht hk1 hFc hB
              clear hB hk1 hz1 hvm ht hPc hDc hKc hFc
              clear hP hD hS
              have hP : va_P G vwCl [(sh, .inr (1, [.ref r1, .ref r2, .ref r3, .ref r4, .int (nI rc), .int (nI bo), .int (lst L2)])), (r3, .inr (0, [.ref j3, .int (nI L3.length)])), (j3, .inl (cI, 30, .inl f3)), (r1, .inr (0, [.ref j1, .int (nI L1.length)])), (j1, .inl (cI, 30, .inl f1)), (r2, .inr (0, [.ref j2, .int (nI L2.dropLast.length)])), (j2, .inl (cI, 30, .inl f105)), (r4, .inr (0, [.ref j4, .int (nI (((lst L2) :: L4).length))])), (j4, .inl (cI, 30, .inl f112))] H114 := hP1
              have hD : va_D A [(sh, .inr (1, [.ref r1, .ref r2, .ref r3, .ref r4, .int (nI rc), .int (nI bo), .int (lst L2)])), (r3, .inr (0, [.ref j3, .int (nI L3.length)])), (j3, .inl (cI, 30, .inl f3)), (r1, .inr (0, [.ref j1, .int (nI L1.length)])), (j1, .inl (cI, 30, .inl f1)), (r2, .inr (0, [.ref j2, .int (nI L2.dropLast.length)])), (j2, .inl (cI, 30, .inl f105)), (r4, .inr (0, [.ref j4, .int (nI (((lst L2) :: L4).length))])), (j4, .inl (cI, 30, .inl f112))] := hD1
              have hS := hS1
              clear hP1 hD1 hS1
              have hP9 := hP.sub (ws' := [(sh, .inr (1, [.ref r1, .ref r2, .ref r3, .ref r4, .int (nI rc), .int (nI bo), .int (lst L2)])), (r1, .inr (0, [.ref j1, .int (nI L1.length)])), (j1, .inl (cI, 30, .inl f1)), (r2, .inr (0, [.ref j2, .int (nI L2.dropLast.length)])), (j2, .inl (cI, 30, .inl f105)), (r3, .inr (0, [.ref j3, .int (nI L3.length)])), (j3, .inl (cI, 30, .inl f3)), (r4, .inr (0, [.ref j4, .int (nI (((lst L2) :: L4).length))])), (j4, .inl (cI, 30, .inl f112))]) [0, 3, 4, 5, 6, 1, 2, 7, 8] rfl
              have hD9 := hD.sub (ws' := [(sh, .inr (1, [.ref r1, .ref r2, .ref r3, .ref r4, .int (nI rc), .int (nI bo), .int (lst L2)])), (r1, .inr (0, [.ref j1, .int (nI L1.length)])), (j1, .inl (cI, 30, .inl f1)), (r2, .inr (0, [.ref j2, .int (nI L2.dropLast.length)])), (j2, .inl (cI, 30, .inl f105)), (r3, .inr (0, [.ref j3, .int (nI L3.length)])), (j3, .inl (cI, 30, .inl f3)), (r4, .inr (0, [.ref j4, .int (nI (((lst L2) :: L4).length))])), (j4, .inl (cI, 30, .inl f112))]) [0, 3, 4, 5, 6, 1, 2, 7, 8] (by decide) rfl
              exact W.vret hx hb hr (fun t ht hW => ⟨⟨((L1, L2.dropLast, L3, ((lst L2) :: L4)), (lst L2)), rfl, (room_c (by omega) (fun z => by rcases z with ⟨z1, (z2 | ⟨z2, z3⟩) | z2⟩ <;> first | omega | (exact absurd z3 (by rw [hff]; decide))) lv), _, _, _, _, hR1, hf106, hR3, hf113, g_at hP9 hK hD9 ht hW⟩, hS.F ht⟩) hS.2.2 dX1_makeRoom_138
            · refine lv_iconst (v := (nI 1)) hx hb dX1_makeRoom_69 (by decide +kernel) ?_
              refine lv_goto (tgt := 74) hx hb dX1_makeRoom_70 (by decide) ?_
              refine lv_istore (lv' := [(4, .int (nI 1)), (3, .int (nI 0)), (2, .int (nI L1.length)), (0, .ref sh), (1, .int (nI ff.toNat))]) hx hb dX1_makeRoom_74 hl (by decide) rfl (fun ls hl => ?_)
              refine lv_iload hx hb dX1_makeRoom_76 (lv_at hl 0 rfl) ?_
              refine g_if_eq (tgt := 88) hx hb dX1_makeRoom_78 (by decide) (by decide) (fun c117 => False.elim (by omega)) (fun c117 => ?_)
              refine lv_aload_n hx hb dX1_makeRoom_81 rfl (lv_at hl 3 rfl) ?_
              refine va_get (D := G) (ci := 1) (v := .ref r1) (C := RX1) (T := TX1) (N := 7) hx hb hts iX1_makeRoom_X1 hown hK hP 0 rfl rfl 0 (by decide) (hts (.fieldLink RX1 14 "GhostPantry$Shelves" "recent" "LGhostPantry$Row;") (by decide +kernel)) (fun _ h9 => h9) rfl dX1_makeRoom_82 ?_
              refine lv_goto (tgt := 92) hx hb dX1_makeRoom_85 (by decide) ?_
              refine lv_astore (lv' := [(5, .ref r1), (4, .int (nI 1)), (3, .int (nI 0)), (2, .int (nI L1.length)), (0, .ref sh), (1, .int (nI ff.toNat))]) hx hb dX1_makeRoom_92 hl (by decide) rfl (fun ls hl => ?_)
              refine lv_iload hx hb dX1_makeRoom_94 (lv_at hl 1 rfl) ?_
              refine g_if_eq (tgt := 106) hx hb dX1_makeRoom_96 (by decide) (by decide) (fun c118 => False.elim (by omega)) (fun c118 => ?_)
              refine lv_aload_n hx hb dX1_makeRoom_99 rfl (lv_at hl 4 rfl) ?_
              refine va_get (D := G) (ci := 1) (v := .ref r3) (C := RX1) (T := TX1) (N := 7) hx hb hts iX1_makeRoom_X1 hown hK hP 0 rfl rfl 2 (by decide) (hts (.fieldLink RX1 23 "GhostPantry$Shelves" "recentGhosts" "LGhostPantry$Row;") (by decide +kernel)) (fun _ h9 => h9) rfl dX1_makeRoom_100 ?_
              refine lv_goto (tgt := 110) hx hb dX1_makeRoom_103 (by decide) ?_
              refine lv_astore (lv' := [(6, .ref r3), (5, .ref r1), (4, .int (nI 1)), (3, .int (nI 0)), (2, .int (nI L1.length)), (0, .ref sh), (1, .int (nI ff.toNat))]) hx hb dX1_makeRoom_110 hl (by decide) rfl (fun ls hl => ?_)
              refine lv_aload_n hx hb dX1_makeRoom_112 rfl (lv_at hl 5 rfl) ?_
              refine lv_aload hx hb dX1_makeRoom_113 (lv_at hl 1 rfl) ?_
              have hPc := hP.sub (ws' := [(r1, .inr (0, [.ref j1, .int (nI L1.length)])), (j1, .inl (cI, 30, .inl f1))]) [5, 6] rfl
              have hDc := hD.sub (ws' := [(r1, .inr (0, [.ref j1, .int (nI L1.length)])), (j1, .inl (cI, 30, .inl f1))]) [5, 6] (by decide) rfl
              have hKc := hK.sub (tys' := [(cI, .int)]) [0] rfl
              have hFc := va_free (wc := [(r1, .inr (0, [.ref j1, .int (nI L1.length)])), (j1, .inl (cI, 30, .inl f1))]) hD hS hA [5, 6] rfl
              refine va_calli (va_runV (As := []) (rest := [.ref sh]) ⟨hx, hb, hml, hown, hts⟩ (c_X0_takeLast l G cI r1 j1 f1 L1 hR1 (by omega) (by omega) H99.size) (cwV 0 hts gX1_makeRoom_X0_takeLast rfl rfl rfl (by decide +kernel) ⟨Nat.le_of_ble_eq_true rfl, Nat.le_of_ble_eq_true rfl⟩) (g_preV (As := []) hPc hKc hDc 0 rfl rfl) rfl rfl hl.1 rfl (lv_room (Nat.le_of_ble_eq_true rfl)) dX1_makeRoom_115 ⟨(Nat.le_of_ble_eq_true rfl), (Nat.le_of_ble_eq_true rfl)⟩) hS (fun q _ h => hFc q h) hFc (fun r122 u123 t H121 locs ht hvm hw hB hz1 hk1 hS1 => ?_)
              subst hw
              obtain ⟨f119, hf120, hB⟩ := hB
              obtain ⟨hP1, hD1⟩ := g_join (wc := [(r1, .inr (0, [.ref j1, .int (nI L1.length)])), (j1, .inl (cI, 30, .inl f1))]) (wr := [(sh, .inr (1, [.ref r1, .ref r2, .ref r3, .ref r4, .int (nI rc), .int (nI bo), .int lv])), (r3, .inr (0, [.ref j3, .int (nI L3.length)])), (j3, .inl (cI, 30, .inl f3)), (r4, .inr (0, [.ref j4, .int (nI L4.length)])), (j4, .inl (cI, 30, .inl f4)), (r2, .inr (0, [.ref j2, .int (nI L2.length)])), (j2, .inl (cI, 30, .inl f2))]) (w1 := [(r1, .inr (0, [.ref j1, .int (nI L1.dropLast.length)])), (j1, .inl (cI, 30, .inl f119))]) hP hD [5, 6] [0, 1, 2, 3, 4, 7, 8] rfl rfl (by decide) (by decide) ht hk1 hFc hB
              clear hB hk1 hz1 hvm ht hPc hDc hKc hFc
              clear hP hD hS
              have hP : va_P G vwCl [(sh, .inr (1, [.ref r1, .ref r2, .ref r3, .ref r4, .int (nI rc), .int (nI bo), .int lv])), (r3, .inr (0, [.ref j3, .int (nI L3.length)])), (j3, .inl (cI, 30, .inl f3)), (r4, .inr (0, [.ref j4, .int (nI L4.length)])), (j4, .inl (cI, 30, .inl f4)), (r2, .inr (0, [.ref j2, .int (nI L2.length)])), (j2, .inl (cI, 30, .inl f2)), (r1, .inr (0, [.ref j1, .int (nI L1.dropLast.length)])), (j1, .inl (cI, 30, .inl f119))] H121 := hP1
              have hD : va_D A [(sh, .inr (1, [.ref r1, .ref r2, .ref r3, .ref r4, .int (nI rc), .int (nI bo), .int lv])), (r3, .inr (0, [.ref j3, .int (nI L3.length)])), (j3, .inl (cI, 30, .inl f3)), (r4, .inr (0, [.ref j4, .int (nI L4.length)])), (j4, .inl (cI, 30, .inl f4)), (r2, .inr (0, [.ref j2, .int (nI L2.length)])), (j2, .inl (cI, 30, .inl f2)), (r1, .inr (0, [.ref j1, .int (nI L1.dropLast.length)])), (j1, .inl (cI, 30, .inl f119))] := hD1
              have hS := hS1
              clear hP1 hD1 hS1
              refine va_put (D := G) (ci := 1) (v := .int (lst L1)) (ty := .int) (C := RX1) (T := TX1) (N := 7) hx hb hts iX1_makeRoom_X1 tyX1 tyX1_ok nmX1 hown hK hP hD hS 0 rfl rfl 6 (by decide) (hts (.fieldLink RX1 36 "GhostPantry$Shelves" "leaver" "I") (by decide +kernel)) (fun _ h9 => h9) rfl (by decide +kernel) rfl rfl (Nat.le_of_ble_eq_true rfl) dX1_makeRoom_118 (fun H124 locs hP1 hD1 hS1 => ?_)
              clear hP hD hS
              have hP : va_P G vwCl [(sh, .inr (1, [.ref r1, .ref r2, .ref r3, .ref r4, .int (nI rc), .int (nI bo), .int (lst L1)])), (r3, .inr (0, [.ref j3, .int (nI L3.length)])), (j3, .inl (cI, 30, .inl f3)), (r4, .inr (0, [.ref j4, .int (nI L4.length)])), (j4, .inl (cI, 30, .inl f4)), (r2, .inr (0, [.ref j2, .int (nI L2.length)])), (j2, .inl (cI, 30, .inl f2)), (r1, .inr (0, [.ref j1, .int (nI L1.dropLast.length)])), (j1, .inl (cI, 30, .inl f119))] H124 := hP1
              have hD : va_D A [(sh, .inr (1, [.ref r1, .ref r2, .ref r3, .ref r4, .int (nI rc), .int (nI bo), .int (lst L1)])), (r3, .inr (0, [.ref j3, .int (nI L3.length)])), (j3, .inl (cI, 30, .inl f3)), (r4, .inr (0, [.ref j4, .int (nI L4.length)])), (j4, .inl (cI, 30, .inl f4)), (r2, .inr (0, [.ref j2, .int (nI L2.length)])), (j2, .inl (cI, 30, .inl f2)), (r1, .inr (0, [.ref j1, .int (nI L1.dropLast.length)])), (j1, .inl (cI, 30, .inl f119))] := hD1
              have hS := hS1
              clear hP1 hD1 hS1
              refine lv_aload_n hx hb dX1_makeRoom_121 rfl (lv_at hl 5 rfl) ?_
              refine va_get (D := G) (ci := 1) (v := .int (lst L1)) (C := RX1) (T := TX1) (N := 7) hx hb hts iX1_makeRoom_X1 hown hK hP 0 rfl rfl 6 (by decide) (hts (.fieldLink RX1 36 "GhostPantry$Shelves" "leaver" "I") (by decide +kernel)) (fun _ h9 => h9) rfl dX1_makeRoom_122 ?_
              refine lv_iconst (v := (-1)) hx hb dX1_makeRoom_125 (by decide +kernel) ?_
              refine lv_icmp_eq (tgt := 138) hx hb dX1_makeRoom_126 (by decide) (fun c125 => False.elim (by exact ok_ne (ok_lst hj1 (by omega)) c125)) (fun c125 => ?_)
              refine lv_aload hx hb dX1_makeRoom_129 (lv_at hl 0 rfl) ?_
              refine lv_aload_n hx hb dX1_makeRoom_131 rfl (lv_at hl 5 rfl) ?_
              refine va_get (D := G) (ci := 1) (v := .int (lst L1)) (C := RX1) (T := TX1) (N := 7) hx hb hts iX1_makeRoom_X1 hown hK hP 0 rfl rfl 6 (by decide) (hts (.fieldLink RX1 36 "GhostPantry$Shelves" "leaver" "I") (by decide +kernel)) (fun _ h9 => h9) rfl dX1_makeRoom_132 ?_
              have hPc := hP.sub (ws' := [(r3, .inr (0, [.ref j3, .int (nI L3.length)])), (j3, .inl (cI, 30, .inl f3))]) [1, 2] rfl
              have hDc := hD.sub (ws' := [(r3, .inr (0, [.ref j3, .int (nI L3.length)])), (j3, .inl (cI, 30, .inl f3))]) [1, 2] (by decide) rfl
              have hKc := hK.sub (tys' := [(cI, .int)]) [0] rfl
              have hFc := va_free (wc := [(r3, .inr (0, [.ref j3, .int (nI L3.length)])), (j3, .inl (cI, 30, .inl f3))]) hD hS hA [1, 2] rfl
              refine va_callv (va_runV (As := [.int (lst L1)]) (rest := []) ⟨hx, hb, hml, hown, hts⟩ (c_X0_putFirst l G cI r3 j3 f3 L3 hR3 (by omega) (lst L1) (by omega) H124.size) (cwV 1 hts gX1_makeRoom_X0_putFirst rfl rfl rfl (by decide +kernel) ⟨Nat.le_of_ble_eq_true rfl, Nat.le_of_ble_eq_true rfl⟩) (g_preV (As := [.int (lst L1)]) hPc hKc hDc 0 rfl rfl) rfl rfl hl.1 rfl (lv_room (Nat.le_of_ble_eq_true rfl)) dX1_makeRoom_135 ⟨(Nat.le_of_ble_eq_true rfl), (Nat.le_of_ble_eq_true rfl)⟩) hS (fun q _ h => hFc q h) hFc (fun u130 t H128 locs ht hvm hw hB hz1 hk1 hS1 => ?_)
              obtain ⟨f126, hf127, hB⟩ := hB
              obtain ⟨hP1, hD1⟩ := g_join (wc := [(r3, .inr (0, [.ref j3, .int (nI L3.length)])), (j3, .inl (cI, 30, .inl f3))]) (wr := [(sh, .inr (1, [.ref r1, .ref r2, .ref r3, .ref r4, .int (nI rc), .int (nI bo), .int (lst L1)])), (r4, .inr (0, [.ref j4, .int (nI L4.length)])), (j4, .inl (cI, 30, .inl f4)), (r2, .inr (0, [.ref j2, .int (nI L2.length)])), (j2, .inl (cI, 30, .inl f2)), (r1, .inr (0, [.ref j1, .int (nI L1.dropLast.length)])), (j1, .inl (cI, 30, .inl f119))]) (w1 := [(r3, .inr (0, [.ref j3, .int (nI (((lst L1) :: L3).length))])), (j3, .inl (cI, 30, .inl f126))]) hP hD [1, 2] [0, 3, 4, 5, 6, 7, 8] rfl rfl (by decide) (by decide) ht hk1 hFc hB
              clear hB hk1 hz1 hvm ht hPc hDc hKc hFc
              clear hP hD hS
              have hP : va_P G vwCl [(sh, .inr (1, [.ref r1, .ref r2, .ref r3, .ref r4, .int (nI rc), .int (nI bo), .int (lst L1)])), (r4, .inr (0, [.ref j4, .int (nI L4.length)])), (j4, .inl (cI, 30, .inl f4)), (r2, .inr (0, [.ref j2, .int (nI L2.length)])), (j2, .inl (cI, 30, .inl f2)), (r1, .inr (0, [.ref j1, .int (nI L1.dropLast.length)])), (j1, .inl (cI, 30, .inl f119)), (r3, .inr (0, [.ref j3, .int (nI (((lst L1) :: L3).length))])), (j3, .inl (cI, 30, .inl f126))] H128 := hP1
              have hD : va_D A [(sh, .inr (1, [.ref r1, .ref r2, .ref r3, .ref r4, .int (nI rc), .int (nI bo), .int (lst L1)])), (r4, .inr (0, [.ref j4, .int (nI L4.length)])), (j4, .inl (cI, 30, .inl f4)), (r2, .inr (0, [.ref j2, .int (nI L2.length)])), (j2, .inl (cI, 30, .inl f2)), (r1, .inr (0, [.ref j1, .int (nI L1.dropLast.length)])), (j1, .inl (cI, 30, .inl f119)), (r3, .inr (0, [.ref j3, .int (nI (((lst L1) :: L3).length))])), (j3, .inl (cI, 30, .inl f126))] := hD1
              have hS := hS1
              clear hP1 hD1 hS1
              have hP9 := hP.sub (ws' := [(sh, .inr (1, [.ref r1, .ref r2, .ref r3, .ref r4, .int (nI rc), .int (nI bo), .int (lst L1)])), (r1, .inr (0, [.ref j1, .int (nI L1.dropLast.length)])), (j1, .inl (cI, 30, .inl f119)), (r2, .inr (0, [.ref j2, .int (nI L2.length)])), (j2, .inl (cI, 30, .inl f2)), (r3, .inr (0, [.ref j3, .int (nI (((lst L1) :: L3).length))])), (j3, .inl (cI, 30, .inl f126)), (r4, .inr (0, [.ref j4, .int (nI L4.length)])), (j4, .inl (cI, 30, .inl f4))]) [0, 5, 6, 3, 4, 7, 8, 1, 2] rfl
              have hD9 := hD.sub (ws' := [(sh, .inr (1, [.ref r1, .ref r2, .ref r3, .ref r4, .int (nI rc), .int (nI bo), .int (lst L1)])), (r1, .inr (0, [.ref j1, .int (nI L1.dropLast.length)])), (j1, .inl (cI, 30, .inl f119)), (r2, .inr (0, [.ref j2, .int (nI L2.length)])), (j2, .inl (cI, 30, .inl f2)), (r3, .inr (0, [.ref j3, .int (nI (((lst L1) :: L3).length))])), (j3, .inl (cI, 30, .inl f126)), (r4, .inr (0, [.ref j4, .int (nI L4.length)])), (j4, .inl (cI, 30, .inl f4))]) [0, 5, 6, 3, 4, 7, 8, 1, 2] (by decide) rfl
              exact W.vret hx hb hr (fun t ht hW => ⟨⟨((L1.dropLast, L2, ((lst L1) :: L3), L4), (lst L1)), rfl, (room_b (by omega) (by omega) (Or.inr (by omega)) lv), _, _, _, _, hf120, hR2, hf127, hR4, g_at hP9 hK hD9 ht hW⟩, hS.F ht⟩) hS.2.2 dX1_makeRoom_138
        · refine lv_iconst (v := (nI 1)) hx hb dX1_makeRoom_45 (by decide +kernel) ?_
          refine lv_goto (tgt := 50) hx hb dX1_makeRoom_46 (by decide) ?_
          refine lv_istore_n (lv' := [(3, .int (nI 1)), (2, .int (nI L1.length)), (0, .ref sh), (1, .int (nI ff.toNat))]) hx hb dX1_makeRoom_50 rfl hl (by decide) rfl (fun ls hl => ?_)
          refine lv_iload_n hx hb dX1_makeRoom_51 rfl (lv_at hl 1 rfl) ?_
          refine g_if_le (tgt := 59) hx hb dX1_makeRoom_52 (by decide) (by omega) (fun c131 => ?_) (fun c131 => ?_)
          · refine lv_aload_n hx hb dX1_makeRoom_59 rfl (lv_at hl 2 rfl) ?_
            refine va_get (D := G) (ci := 1) (v := .ref r2) (C := RX1) (T := TX1) (N := 7) hx hb hts iX1_makeRoom_X1 hown hK hP 0 rfl rfl 1 (by decide) (hts (.fieldLink RX1 20 "GhostPantry$Shelves" "frequent" "LGhostPantry$Row;") (by decide +kernel)) (fun _ h9 => h9) rfl dX1_makeRoom_60 ?_
            have hPc := hP.sub (ws' := [(r2, .inr (0, [.ref j2, .int (nI L2.length)])), (j2, .inl (cI, 30, .inl f2))]) [7, 8] rfl
            have hDc := hD.sub (ws' := [(r2, .inr (0, [.ref j2, .int (nI L2.length)])), (j2, .inl (cI, 30, .inl f2))]) [7, 8] (by decide) rfl
            have hKc := hK.sub (tys' := [(cI, .int)]) [0] rfl
            have hFc := va_free (wc := [(r2, .inr (0, [.ref j2, .int (nI L2.length)])), (j2, .inl (cI, 30, .inl f2))]) hD hS hA [7, 8] rfl
            refine va_calli (va_runV (As := []) (rest := []) ⟨hx, hb, hml, hown, hts⟩ (c_X0_length l G cI r2 j2 f2 L2 hR2 (by omega)  H4.size) (cwV 0 hts gX1_makeRoom_X0_length rfl rfl rfl (by decide +kernel) ⟨Nat.le_of_ble_eq_true rfl, Nat.le_of_ble_eq_true rfl⟩) (g_preV (As := []) hPc hKc hDc 0 rfl rfl) rfl rfl hl.1 rfl (lv_room (Nat.le_of_ble_eq_true rfl)) dX1_makeRoom_63 ⟨(Nat.le_of_ble_eq_true rfl), (Nat.le_of_ble_eq_true rfl)⟩) hS (fun q _ h => hFc q h) hFc (fun r133 u134 t H132 locs ht hvm hw hB hz1 hk1 hS1 => ?_)
            subst hw
            obtain ⟨hP1, hD1⟩ := g_join (wc := [(r2, .inr (0, [.ref j2, .int (nI L2.length)])), (j2, .inl (cI, 30, .inl f2))]) (wr := [(sh, .inr (1, [.ref r1, .ref r2, .ref r3, .ref r4, .int (nI rc), .int (nI bo), .int lv])), (r3, .inr (0, [.ref j3, .int (nI L3.length)])), (j3, .inl (cI, 30, .inl f3)), (r4, .inr (0, [.ref j4, .int (nI L4.length)])), (j4, .inl (cI, 30, .inl f4)), (r1, .inr (0, [.ref j1, .int (nI L1.length)])), (j1, .inl (cI, 30, .inl f1))]) (w1 := [(r2, .inr (0, [.ref j2, .int (nI L2.length)])), (j2, .inl (cI, 30, .inl f2))]) hP hD [7, 8] [0, 1, 2, 3, 4, 5, 6] rfl rfl (by decide) (by decide) ht hk1 hFc hB
            clear hB hk1 hz1 hvm ht hPc hDc hKc hFc
            clear hP hD hS
            have hP : va_P G vwCl [(sh, .inr (1, [.ref r1, .ref r2, .ref r3, .ref r4, .int (nI rc), .int (nI bo), .int lv])), (r3, .inr (0, [.ref j3, .int (nI L3.length)])), (j3, .inl (cI, 30, .inl f3)), (r4, .inr (0, [.ref j4, .int (nI L4.length)])), (j4, .inl (cI, 30, .inl f4)), (r1, .inr (0, [.ref j1, .int (nI L1.length)])), (j1, .inl (cI, 30, .inl f1)), (r2, .inr (0, [.ref j2, .int (nI L2.length)])), (j2, .inl (cI, 30, .inl f2))] H132 := hP1
            have hD : va_D A [(sh, .inr (1, [.ref r1, .ref r2, .ref r3, .ref r4, .int (nI rc), .int (nI bo), .int lv])), (r3, .inr (0, [.ref j3, .int (nI L3.length)])), (j3, .inl (cI, 30, .inl f3)), (r4, .inr (0, [.ref j4, .int (nI L4.length)])), (j4, .inl (cI, 30, .inl f4)), (r1, .inr (0, [.ref j1, .int (nI L1.length)])), (j1, .inl (cI, 30, .inl f1)), (r2, .inr (0, [.ref j2, .int (nI L2.length)])), (j2, .inl (cI, 30, .inl f2))] := hD1
            have hS := hS1
            clear hP1 hD1 hS1
            refine g_if_ne (tgt := 73) hx hb dX1_makeRoom_66 (by decide) (by omega) (fun c135 => ?_) (fun c135 => False.elim (by omega))
            refine lv_iconst (v := (nI 0)) hx hb dX1_makeRoom_73 (by decide +kernel) ?_
            refine lv_istore (lv' := [(4, .int (nI 0)), (3, .int (nI 1)), (2, .int (nI L1.length)), (0, .ref sh), (1, .int (nI ff.toNat))]) hx hb dX1_makeRoom_74 hl (by decide) rfl (fun ls hl => ?_)
            refine lv_iload hx hb dX1_makeRoom_76 (lv_at hl 0 rfl) ?_
            refine g_if_eq (tgt := 88) hx hb dX1_makeRoom_78 (by decide) (by decide) (fun c136 => ?_) (fun c136 => False.elim (by omega))
            refine lv_aload_n hx hb dX1_makeRoom_88 rfl (lv_at hl 3 rfl) ?_
            refine va_get (D := G) (ci := 1) (v := .ref r2) (C := RX1) (T := TX1) (N := 7) hx hb hts iX1_makeRoom_X1 hown hK hP 0 rfl rfl 1 (by decide) (hts (.fieldLink RX1 20 "GhostPantry$Shelves" "frequent" "LGhostPantry$Row;") (by decide +kernel)) (fun _ h9 => h9) rfl dX1_makeRoom_89 ?_
            refine lv_astore (lv' := [(5, .ref r2), (4, .int (nI 0)), (3, .int (nI 1)), (2, .int (nI L1.length)), (0, .ref sh), (1, .int (nI ff.toNat))]) hx hb dX1_makeRoom_92 hl (by decide) rfl (fun ls hl => ?_)
            refine lv_iload hx hb dX1_makeRoom_94 (lv_at hl 1 rfl) ?_
            refine g_if_eq (tgt := 106) hx hb dX1_makeRoom_96 (by decide) (by decide) (fun c137 => ?_) (fun c137 => False.elim (by omega))
            refine lv_aload_n hx hb dX1_makeRoom_106 rfl (lv_at hl 4 rfl) ?_
            refine va_get (D := G) (ci := 1) (v := .ref r4) (C := RX1) (T := TX1) (N := 7) hx hb hts iX1_makeRoom_X1 hown hK hP 0 rfl rfl 3 (by decide) (hts (.fieldLink RX1 26 "GhostPantry$Shelves" "frequentGhosts" "LGhostPantry$Row;") (by decide +kernel)) (fun _ h9 => h9) rfl dX1_makeRoom_107 ?_
            refine lv_astore (lv' := [(6, .ref r4), (5, .ref r2), (4, .int (nI 0)), (3, .int (nI 1)), (2, .int (nI L1.length)), (0, .ref sh), (1, .int (nI ff.toNat))]) hx hb dX1_makeRoom_110 hl (by decide) rfl (fun ls hl => ?_)
            refine lv_aload_n hx hb dX1_makeRoom_112 rfl (lv_at hl 5 rfl) ?_
            refine lv_aload hx hb dX1_makeRoom_113 (lv_at hl 1 rfl) ?_
            have hPc := hP.sub (ws' := [(r2, .inr (0, [.ref j2, .int (nI L2.length)])), (j2, .inl (cI, 30, .inl f2))]) [7, 8] rfl
            have hDc := hD.sub (ws' := [(r2, .inr (0, [.ref j2, .int (nI L2.length)])), (j2, .inl (cI, 30, .inl f2))]) [7, 8] (by decide) rfl
            have hKc := hK.sub (tys' := [(cI, .int)]) [0] rfl
            have hFc := va_free (wc := [(r2, .inr (0, [.ref j2, .int (nI L2.length)])), (j2, .inl (cI, 30, .inl f2))]) hD hS hA [7, 8] rfl
            refine va_calli (va_runV (As := []) (rest := [.ref sh]) ⟨hx, hb, hml, hown, hts⟩ (c_X0_takeLast l G cI r2 j2 f2 L2 hR2 (by omega) (by omega) H132.size) (cwV 0 hts gX1_makeRoom_X0_takeLast rfl rfl rfl (by decide +kernel) ⟨Nat.le_of_ble_eq_true rfl, Nat.le_of_ble_eq_true rfl⟩) (g_preV (As := []) hPc hKc hDc 0 rfl rfl) rfl rfl hl.1 rfl (lv_room (Nat.le_of_ble_eq_true rfl)) dX1_makeRoom_115 ⟨(Nat.le_of_ble_eq_true rfl), (Nat.le_of_ble_eq_true rfl)⟩) hS (fun q _ h => hFc q h) hFc (fun r141 u142 t H140 locs ht hvm hw hB hz1 hk1 hS1 => ?_)
            subst hw
            obtain ⟨f138, hf139, hB⟩ := hB
            obtain ⟨hP1, hD1⟩ := g_join (wc := [(r2, .inr (0, [.ref j2, .int (nI L2.length)])), (j2, .inl (cI, 30, .inl f2))]) (wr := [(sh, .inr (1, [.ref r1, .ref r2, .ref r3, .ref r4, .int (nI rc), .int (nI bo), .int lv])), (r3, .inr (0, [.ref j3, .int (nI L3.length)])), (j3, .inl (cI, 30, .inl f3)), (r4, .inr (0, [.ref j4, .int (nI L4.length)])), (j4, .inl (cI, 30, .inl f4)), (r1, .inr (0, [.ref j1, .int (nI L1.length)])), (j1, .inl (cI, 30, .inl f1))]) (w1 := [(r2, .inr (0, [.ref j2, .int (nI L2.dropLast.length)])), (j2, .inl (cI, 30, .inl f138))]) hP hD [7, 8] [0, 1, 2, 3, 4, 5, 6] rfl rfl (by decide) (by decide) ht hk1 hFc hB
            clear hB hk1 hz1 hvm ht hPc hDc hKc hFc
            clear hP hD hS
            have hP : va_P G vwCl [(sh, .inr (1, [.ref r1, .ref r2, .ref r3, .ref r4, .int (nI rc), .int (nI bo), .int lv])), (r3, .inr (0, [.ref j3, .int (nI L3.length)])), (j3, .inl (cI, 30, .inl f3)), (r4, .inr (0, [.ref j4, .int (nI L4.length)])), (j4, .inl (cI, 30, .inl f4)), (r1, .inr (0, [.ref j1, .int (nI L1.length)])), (j1, .inl (cI, 30, .inl f1)), (r2, .inr (0, [.ref j2, .int (nI L2.dropLast.length)])), (j2, .inl (cI, 30, .inl f138))] H140 := hP1
            have hD : va_D A [(sh, .inr (1, [.ref r1, .ref r2, .ref r3, .ref r4, .int (nI rc), .int (nI bo), .int lv])), (r3, .inr (0, [.ref j3, .int (nI L3.length)])), (j3, .inl (cI, 30, .inl f3)), (r4, .inr (0, [.ref j4, .int (nI L4.length)])), (j4, .inl (cI, 30, .inl f4)), (r1, .inr (0, [.ref j1, .int (nI L1.length)])), (j1, .inl (cI, 30, .inl f1)), (r2, .inr (0, [.ref j2, .int (nI L2.dropLast.length)])), (j2, .inl (cI, 30, .inl f138))] := hD1
            have hS := hS1
            clear hP1 hD1 hS1
            refine va_put (D := G) (ci := 1) (v := .int (lst L2)) (ty := .int) (C := RX1) (T := TX1) (N := 7) hx hb hts iX1_makeRoom_X1 tyX1 tyX1_ok nmX1 hown hK hP hD hS 0 rfl rfl 6 (by decide) (hts (.fieldLink RX1 36 "GhostPantry$Shelves" "leaver" "I") (by decide +kernel)) (fun _ h9 => h9) rfl (by decide +kernel) rfl rfl (Nat.le_of_ble_eq_true rfl) dX1_makeRoom_118 (fun H143 locs hP1 hD1 hS1 => ?_)
            clear hP hD hS
            have hP : va_P G vwCl [(sh, .inr (1, [.ref r1, .ref r2, .ref r3, .ref r4, .int (nI rc), .int (nI bo), .int (lst L2)])), (r3, .inr (0, [.ref j3, .int (nI L3.length)])), (j3, .inl (cI, 30, .inl f3)), (r4, .inr (0, [.ref j4, .int (nI L4.length)])), (j4, .inl (cI, 30, .inl f4)), (r1, .inr (0, [.ref j1, .int (nI L1.length)])), (j1, .inl (cI, 30, .inl f1)), (r2, .inr (0, [.ref j2, .int (nI L2.dropLast.length)])), (j2, .inl (cI, 30, .inl f138))] H143 := hP1
            have hD : va_D A [(sh, .inr (1, [.ref r1, .ref r2, .ref r3, .ref r4, .int (nI rc), .int (nI bo), .int (lst L2)])), (r3, .inr (0, [.ref j3, .int (nI L3.length)])), (j3, .inl (cI, 30, .inl f3)), (r4, .inr (0, [.ref j4, .int (nI L4.length)])), (j4, .inl (cI, 30, .inl f4)), (r1, .inr (0, [.ref j1, .int (nI L1.length)])), (j1, .inl (cI, 30, .inl f1)), (r2, .inr (0, [.ref j2, .int (nI L2.dropLast.length)])), (j2, .inl (cI, 30, .inl f138))] := hD1
            have hS := hS1
            clear hP1 hD1 hS1
            refine lv_aload_n hx hb dX1_makeRoom_121 rfl (lv_at hl 5 rfl) ?_
            refine va_get (D := G) (ci := 1) (v := .int (lst L2)) (C := RX1) (T := TX1) (N := 7) hx hb hts iX1_makeRoom_X1 hown hK hP 0 rfl rfl 6 (by decide) (hts (.fieldLink RX1 36 "GhostPantry$Shelves" "leaver" "I") (by decide +kernel)) (fun _ h9 => h9) rfl dX1_makeRoom_122 ?_
            refine lv_iconst (v := (-1)) hx hb dX1_makeRoom_125 (by decide +kernel) ?_
            refine lv_icmp_eq (tgt := 138) hx hb dX1_makeRoom_126 (by decide) (fun c144 => False.elim (by exact ok_ne (ok_lst hj2 (by omega)) c144)) (fun c144 => ?_)
            refine lv_aload hx hb dX1_makeRoom_129 (lv_at hl 0 rfl) ?_
            refine lv_aload_n hx hb dX1_makeRoom_131 rfl (lv_at hl 5 rfl) ?_
            refine va_get (D := G) (ci := 1) (v := .int (lst L2)) (C := RX1) (T := TX1) (N := 7) hx hb hts iX1_makeRoom_X1 hown hK hP 0 rfl rfl 6 (by decide) (hts (.fieldLink RX1 36 "GhostPantry$Shelves" "leaver" "I") (by decide +kernel)) (fun _ h9 => h9) rfl dX1_makeRoom_132 ?_
            have hPc := hP.sub (ws' := [(r4, .inr (0, [.ref j4, .int (nI L4.length)])), (j4, .inl (cI, 30, .inl f4))]) [3, 4] rfl
            have hDc := hD.sub (ws' := [(r4, .inr (0, [.ref j4, .int (nI L4.length)])), (j4, .inl (cI, 30, .inl f4))]) [3, 4] (by decide) rfl
            have hKc := hK.sub (tys' := [(cI, .int)]) [0] rfl
            have hFc := va_free (wc := [(r4, .inr (0, [.ref j4, .int (nI L4.length)])), (j4, .inl (cI, 30, .inl f4))]) hD hS hA [3, 4] rfl
            refine va_callv (va_runV (As := [.int (lst L2)]) (rest := []) ⟨hx, hb, hml, hown, hts⟩ (c_X0_putFirst l G cI r4 j4 f4 L4 hR4 (by omega) (lst L2) (by omega) H143.size) (cwV 1 hts gX1_makeRoom_X0_putFirst rfl rfl rfl (by decide +kernel) ⟨Nat.le_of_ble_eq_true rfl, Nat.le_of_ble_eq_true rfl⟩) (g_preV (As := [.int (lst L2)]) hPc hKc hDc 0 rfl rfl) rfl rfl hl.1 rfl (lv_room (Nat.le_of_ble_eq_true rfl)) dX1_makeRoom_135 ⟨(Nat.le_of_ble_eq_true rfl), (Nat.le_of_ble_eq_true rfl)⟩) hS (fun q _ h => hFc q h) hFc (fun u149 t H147 locs ht hvm hw hB hz1 hk1 hS1 => ?_)
            obtain ⟨f145, hf146, hB⟩ := hB
            obtain ⟨hP1, hD1⟩ := g_join (wc := [(r4, .inr (0, [.ref j4, .int (nI L4.length)])), (j4, .inl (cI, 30, .inl f4))]) (wr := [(sh, .inr (1, [.ref r1, .ref r2, .ref r3, .ref r4, .int (nI rc), .int (nI bo), .int (lst L2)])), (r3, .inr (0, [.ref j3, .int (nI L3.length)])), (j3, .inl (cI, 30, .inl f3)), (r1, .inr (0, [.ref j1, .int (nI L1.length)])), (j1, .inl (cI, 30, .inl f1)), (r2, .inr (0, [.ref j2, .int (nI L2.dropLast.length)])), (j2, .inl (cI, 30, .inl f138))]) (w1 := [(r4, .inr (0, [.ref j4, .int (nI (((lst L2) :: L4).length))])), (j4, .inl (cI, 30, .inl f145))]) hP hD [3, 4] [0, 1, 2, 5, 6, 7, 8] rfl rfl (by decide) (by decide) ht hk1 hFc hB
            clear hB hk1 hz1 hvm ht hPc hDc hKc hFc
            clear hP hD hS
            have hP : va_P G vwCl [(sh, .inr (1, [.ref r1, .ref r2, .ref r3, .ref r4, .int (nI rc), .int (nI bo), .int (lst L2)])), (r3, .inr (0, [.ref j3, .int (nI L3.length)])), (j3, .inl (cI, 30, .inl f3)), (r1, .inr (0, [.ref j1, .int (nI L1.length)])), (j1, .inl (cI, 30, .inl f1)), (r2, .inr (0, [.ref j2, .int (nI L2.dropLast.length)])), (j2, .inl (cI, 30, .inl f138)), (r4, .inr (0, [.ref j4, .int (nI (((lst L2) :: L4).length))])), (j4, .inl (cI, 30, .inl f145))] H147 := hP1
            have hD : va_D A [(sh, .inr (1, [.ref r1, .ref r2, .ref r3, .ref r4, .int (nI rc), .int (nI bo), .int (lst L2)])), (r3, .inr (0, [.ref j3, .int (nI L3.length)])), (j3, .inl (cI, 30, .inl f3)), (r1, .inr (0, [.ref j1, .int (nI L1.length)])), (j1, .inl (cI, 30, .inl f1)), (r2, .inr (0, [.ref j2, .int (nI L2.dropLast.length)])), (j2, .inl (cI, 30, .inl f138)), (r4, .inr (0, [.ref j4, .int (nI (((lst L2) :: L4).length))])), (j4, .inl (cI, 30, .inl f145))] := hD1
            have hS := hS1
            clear hP1 hD1 hS1
            have hP9 := hP.sub (ws' := [(sh, .inr (1, [.ref r1, .ref r2, .ref r3, .ref r4, .int (nI rc), .int (nI bo), .int (lst L2)])), (r1, .inr (0, [.ref j1, .int (nI L1.length)])), (j1, .inl (cI, 30, .inl f1)), (r2, .inr (0, [.ref j2, .int (nI L2.dropLast.length)])), (j2, .inl (cI, 30, .inl f138)), (r3, .inr (0, [.ref j3, .int (nI L3.length)])), (j3, .inl (cI, 30, .inl f3)), (r4, .inr (0, [.ref j4, .int (nI (((lst L2) :: L4).length))])), (j4, .inl (cI, 30, .inl f145))]) [0, 3, 4, 5, 6, 1, 2, 7, 8] rfl
            have hD9 := hD.sub (ws' := [(sh, .inr (1, [.ref r1, .ref r2, .ref r3, .ref r4, .int (nI rc), .int (nI bo), .int (lst L2)])), (r1, .inr (0, [.ref j1, .int (nI L1.length)])), (j1, .inl (cI, 30, .inl f1)), (r2, .inr (0, [.ref j2, .int (nI L2.dropLast.length)])), (j2, .inl (cI, 30, .inl f138)), (r3, .inr (0, [.ref j3, .int (nI L3.length)])), (j3, .inl (cI, 30, .inl f3)), (r4, .inr (0, [.ref j4, .int (nI (((lst L2) :: L4).length))])), (j4, .inl (cI, 30, .inl f145))]) [0, 3, 4, 5, 6, 1, 2, 7, 8] (by decide) rfl
            exact W.vret hx hb hr (fun t ht hW => ⟨⟨((L1, L2.dropLast, L3, ((lst L2) :: L4)), (lst L2)), rfl, (room_c (by omega) (fun z => by rcases z with ⟨z1, (z2 | ⟨z2, z3⟩) | z2⟩ <;> first | omega | (exact absurd z3 (by rw [hff]; decide))) lv), _, _, _, _, hR1, hf139, hR3, hf146, g_at hP9 hK hD9 ht hW⟩, hS.F ht⟩) hS.2.2 dX1_makeRoom_138
          · refine lv_iload_n hx hb dX1_makeRoom_55 rfl (lv_at hl 0 rfl) ?_
            refine g_if_ne (tgt := 69) hx hb dX1_makeRoom_56 (by decide) (by decide) (fun c150 => ?_) (fun c150 => False.elim (by omega))
            refine lv_iconst (v := (nI 1)) hx hb dX1_makeRoom_69 (by decide +kernel) ?_
            refine lv_goto (tgt := 74) hx hb dX1_makeRoom_70 (by decide) ?_
            refine lv_istore (lv' := [(4, .int (nI 1)), (3, .int (nI 1)), (2, .int (nI L1.length)), (0, .ref sh), (1, .int (nI ff.toNat))]) hx hb dX1_makeRoom_74 hl (by decide) rfl (fun ls hl => ?_)
            refine lv_iload hx hb dX1_makeRoom_76 (lv_at hl 0 rfl) ?_
            refine g_if_eq (tgt := 88) hx hb dX1_makeRoom_78 (by decide) (by decide) (fun c151 => False.elim (by omega)) (fun c151 => ?_)
            refine lv_aload_n hx hb dX1_makeRoom_81 rfl (lv_at hl 3 rfl) ?_
            refine va_get (D := G) (ci := 1) (v := .ref r1) (C := RX1) (T := TX1) (N := 7) hx hb hts iX1_makeRoom_X1 hown hK hP 0 rfl rfl 0 (by decide) (hts (.fieldLink RX1 14 "GhostPantry$Shelves" "recent" "LGhostPantry$Row;") (by decide +kernel)) (fun _ h9 => h9) rfl dX1_makeRoom_82 ?_
            refine lv_goto (tgt := 92) hx hb dX1_makeRoom_85 (by decide) ?_
            refine lv_astore (lv' := [(5, .ref r1), (4, .int (nI 1)), (3, .int (nI 1)), (2, .int (nI L1.length)), (0, .ref sh), (1, .int (nI ff.toNat))]) hx hb dX1_makeRoom_92 hl (by decide) rfl (fun ls hl => ?_)
            refine lv_iload hx hb dX1_makeRoom_94 (lv_at hl 1 rfl) ?_
            refine g_if_eq (tgt := 106) hx hb dX1_makeRoom_96 (by decide) (by decide) (fun c152 => False.elim (by omega)) (fun c152 => ?_)
            refine lv_aload_n hx hb dX1_makeRoom_99 rfl (lv_at hl 4 rfl) ?_
            refine va_get (D := G) (ci := 1) (v := .ref r3) (C := RX1) (T := TX1) (N := 7) hx hb hts iX1_makeRoom_X1 hown hK hP 0 rfl rfl 2 (by decide) (hts (.fieldLink RX1 23 "GhostPantry$Shelves" "recentGhosts" "LGhostPantry$Row;") (by decide +kernel)) (fun _ h9 => h9) rfl dX1_makeRoom_100 ?_
            refine lv_goto (tgt := 110) hx hb dX1_makeRoom_103 (by decide) ?_
            refine lv_astore (lv' := [(6, .ref r3), (5, .ref r1), (4, .int (nI 1)), (3, .int (nI 1)), (2, .int (nI L1.length)), (0, .ref sh), (1, .int (nI ff.toNat))]) hx hb dX1_makeRoom_110 hl (by decide) rfl (fun ls hl => ?_)
            refine lv_aload_n hx hb dX1_makeRoom_112 rfl (lv_at hl 5 rfl) ?_
            refine lv_aload hx hb dX1_makeRoom_113 (lv_at hl 1 rfl) ?_
            have hPc := hP.sub (ws' := [(r1, .inr (0, [.ref j1, .int (nI L1.length)])), (j1, .inl (cI, 30, .inl f1))]) [5, 6] rfl
            have hDc := hD.sub (ws' := [(r1, .inr (0, [.ref j1, .int (nI L1.length)])), (j1, .inl (cI, 30, .inl f1))]) [5, 6] (by decide) rfl
            have hKc := hK.sub (tys' := [(cI, .int)]) [0] rfl
            have hFc := va_free (wc := [(r1, .inr (0, [.ref j1, .int (nI L1.length)])), (j1, .inl (cI, 30, .inl f1))]) hD hS hA [5, 6] rfl
            refine va_calli (va_runV (As := []) (rest := [.ref sh]) ⟨hx, hb, hml, hown, hts⟩ (c_X0_takeLast l G cI r1 j1 f1 L1 hR1 (by omega) (by omega) H4.size) (cwV 0 hts gX1_makeRoom_X0_takeLast rfl rfl rfl (by decide +kernel) ⟨Nat.le_of_ble_eq_true rfl, Nat.le_of_ble_eq_true rfl⟩) (g_preV (As := []) hPc hKc hDc 0 rfl rfl) rfl rfl hl.1 rfl (lv_room (Nat.le_of_ble_eq_true rfl)) dX1_makeRoom_115 ⟨(Nat.le_of_ble_eq_true rfl), (Nat.le_of_ble_eq_true rfl)⟩) hS (fun q _ h => hFc q h) hFc (fun r156 u157 t H155 locs ht hvm hw hB hz1 hk1 hS1 => ?_)
            subst hw
            obtain ⟨f153, hf154, hB⟩ := hB
            obtain ⟨hP1, hD1⟩ := g_join (wc := [(r1, .inr (0, [.ref j1, .int (nI L1.length)])), (j1, .inl (cI, 30, .inl f1))]) (wr := [(sh, .inr (1, [.ref r1, .ref r2, .ref r3, .ref r4, .int (nI rc), .int (nI bo), .int lv])), (r3, .inr (0, [.ref j3, .int (nI L3.length)])), (j3, .inl (cI, 30, .inl f3)), (r4, .inr (0, [.ref j4, .int (nI L4.length)])), (j4, .inl (cI, 30, .inl f4)), (r2, .inr (0, [.ref j2, .int (nI L2.length)])), (j2, .inl (cI, 30, .inl f2))]) (w1 := [(r1, .inr (0, [.ref j1, .int (nI L1.dropLast.length)])), (j1, .inl (cI, 30, .inl f153))]) hP hD [5, 6] [0, 1, 2, 3, 4, 7, 8] rfl rfl (by decide) (by decide) ht hk1 hFc hB
            clear hB hk1 hz1 hvm ht hPc hDc hKc hFc
            clear hP hD hS
            have hP : va_P G vwCl [(sh, .inr (1, [.ref r1, .ref r2, .ref r3, .ref r4, .int (nI rc), .int (nI bo), .int lv])), (r3, .inr (0, [.ref j3, .int (nI L3.length)])), (j3, .inl (cI, 30, .inl f3)), (r4, .inr (0, [.ref j4, .int (nI L4.length)])), (j4, .inl (cI, 30, .inl f4)), (r2, .inr (0, [.ref j2, .int (nI L2.length)])), (j2, .inl (cI, 30, .inl f2)), (r1, .inr (0, [.ref j1, .int (nI L1.dropLast.length)])), (j1, .inl (cI, 30, .inl f153))] H155 := hP1
            have hD : va_D A [(sh, .inr (1, [.ref r1, .ref r2, .ref r3, .ref r4, .int (nI rc), .int (nI bo), .int lv])), (r3, .inr (0, [.ref j3, .int (nI L3.length)])), (j3, .inl (cI, 30, .inl f3)), (r4, .inr (0, [.ref j4, .int (nI L4.length)])), (j4, .inl (cI, 30, .inl f4)), (r2, .inr (0, [.ref j2, .int (nI L2.length)])), (j2, .inl (cI, 30, .inl f2)), (r1, .inr (0, [.ref j1, .int (nI L1.dropLast.length)])), (j1, .inl (cI, 30, .inl f153))] := hD1
            have hS := hS1
            clear hP1 hD1 hS1
            refine va_put (D := G) (ci := 1) (v := .int (lst L1)) (ty := .int) (C := RX1) (T := TX1) (N := 7) hx hb hts iX1_makeRoom_X1 tyX1 tyX1_ok nmX1 hown hK hP hD hS 0 rfl rfl 6 (by decide) (hts (.fieldLink RX1 36 "GhostPantry$Shelves" "leaver" "I") (by decide +kernel)) (fun _ h9 => h9) rfl (by decide +kernel) rfl rfl (Nat.le_of_ble_eq_true rfl) dX1_makeRoom_118 (fun H158 locs hP1 hD1 hS1 => ?_)
            clear hP hD hS
            have hP : va_P G vwCl [(sh, .inr (1, [.ref r1, .ref r2, .ref r3, .ref r4, .int (nI rc), .int (nI bo), .int (lst L1)])), (r3, .inr (0, [.ref j3, .int (nI L3.length)])), (j3, .inl (cI, 30, .inl f3)), (r4, .inr (0, [.ref j4, .int (nI L4.length)])), (j4, .inl (cI, 30, .inl f4)), (r2, .inr (0, [.ref j2, .int (nI L2.length)])), (j2, .inl (cI, 30, .inl f2)), (r1, .inr (0, [.ref j1, .int (nI L1.dropLast.length)])), (j1, .inl (cI, 30, .inl f153))] H158 := hP1
            have hD : va_D A [(sh, .inr (1, [.ref r1, .ref r2, .ref r3, .ref r4, .int (nI rc), .int (nI bo), .int (lst L1)])), (r3, .inr (0, [.ref j3, .int (nI L3.length)])), (j3, .inl (cI, 30, .inl f3)), (r4, .inr (0, [.ref j4, .int (nI L4.length)])), (j4, .inl (cI, 30, .inl f4)), (r2, .inr (0, [.ref j2, .int (nI L2.length)])), (j2, .inl (cI, 30, .inl f2)), (r1, .inr (0, [.ref j1, .int (nI L1.dropLast.length)])), (j1, .inl (cI, 30, .inl f153))] := hD1
            have hS := hS1
            clear hP1 hD1 hS1
            refine lv_aload_n hx hb dX1_makeRoom_121 rfl (lv_at hl 5 rfl) ?_
            refine va_get (D := G) (ci := 1) (v := .int (lst L1)) (C := RX1) (T := TX1) (N := 7) hx hb hts iX1_makeRoom_X1 hown hK hP 0 rfl rfl 6 (by decide) (hts (.fieldLink RX1 36 "GhostPantry$Shelves" "leaver" "I") (by decide +kernel)) (fun _ h9 => h9) rfl dX1_makeRoom_122 ?_
            refine lv_iconst (v := (-1)) hx hb dX1_makeRoom_125 (by decide +kernel) ?_
            refine lv_icmp_eq (tgt := 138) hx hb dX1_makeRoom_126 (by decide) (fun c159 => False.elim (by exact ok_ne (ok_lst hj1 (by omega)) c159)) (fun c159 => ?_)
            refine lv_aload hx hb dX1_makeRoom_129 (lv_at hl 0 rfl) ?_
            refine lv_aload_n hx hb dX1_makeRoom_131 rfl (lv_at hl 5 rfl) ?_
            refine va_get (D := G) (ci := 1) (v := .int (lst L1)) (C := RX1) (T := TX1) (N := 7) hx hb hts iX1_makeRoom_X1 hown hK hP 0 rfl rfl 6 (by decide) (hts (.fieldLink RX1 36 "GhostPantry$Shelves" "leaver" "I") (by decide +kernel)) (fun _ h9 => h9) rfl dX1_makeRoom_132 ?_
            have hPc := hP.sub (ws' := [(r3, .inr (0, [.ref j3, .int (nI L3.length)])), (j3, .inl (cI, 30, .inl f3))]) [1, 2] rfl
            have hDc := hD.sub (ws' := [(r3, .inr (0, [.ref j3, .int (nI L3.length)])), (j3, .inl (cI, 30, .inl f3))]) [1, 2] (by decide) rfl
            have hKc := hK.sub (tys' := [(cI, .int)]) [0] rfl
            have hFc := va_free (wc := [(r3, .inr (0, [.ref j3, .int (nI L3.length)])), (j3, .inl (cI, 30, .inl f3))]) hD hS hA [1, 2] rfl
            refine va_callv (va_runV (As := [.int (lst L1)]) (rest := []) ⟨hx, hb, hml, hown, hts⟩ (c_X0_putFirst l G cI r3 j3 f3 L3 hR3 (by omega) (lst L1) (by omega) H158.size) (cwV 1 hts gX1_makeRoom_X0_putFirst rfl rfl rfl (by decide +kernel) ⟨Nat.le_of_ble_eq_true rfl, Nat.le_of_ble_eq_true rfl⟩) (g_preV (As := [.int (lst L1)]) hPc hKc hDc 0 rfl rfl) rfl rfl hl.1 rfl (lv_room (Nat.le_of_ble_eq_true rfl)) dX1_makeRoom_135 ⟨(Nat.le_of_ble_eq_true rfl), (Nat.le_of_ble_eq_true rfl)⟩) hS (fun q _ h => hFc q h) hFc (fun u164 t H162 locs ht hvm hw hB hz1 hk1 hS1 => ?_)
            obtain ⟨f160, hf161, hB⟩ := hB
            obtain ⟨hP1, hD1⟩ := g_join (wc := [(r3, .inr (0, [.ref j3, .int (nI L3.length)])), (j3, .inl (cI, 30, .inl f3))]) (wr := [(sh, .inr (1, [.ref r1, .ref r2, .ref r3, .ref r4, .int (nI rc), .int (nI bo), .int (lst L1)])), (r4, .inr (0, [.ref j4, .int (nI L4.length)])), (j4, .inl (cI, 30, .inl f4)), (r2, .inr (0, [.ref j2, .int (nI L2.length)])), (j2, .inl (cI, 30, .inl f2)), (r1, .inr (0, [.ref j1, .int (nI L1.dropLast.length)])), (j1, .inl (cI, 30, .inl f153))]) (w1 := [(r3, .inr (0, [.ref j3, .int (nI (((lst L1) :: L3).length))])), (j3, .inl (cI, 30, .inl f160))]) hP hD [1, 2] [0, 3, 4, 5, 6, 7, 8] rfl rfl (by decide) (by decide) ht hk1 hFc hB
            clear hB hk1 hz1 hvm ht hPc hDc hKc hFc
            clear hP hD hS
            have hP : va_P G vwCl [(sh, .inr (1, [.ref r1, .ref r2, .ref r3, .ref r4, .int (nI rc), .int (nI bo), .int (lst L1)])), (r4, .inr (0, [.ref j4, .int (nI L4.length)])), (j4, .inl (cI, 30, .inl f4)), (r2, .inr (0, [.ref j2, .int (nI L2.length)])), (j2, .inl (cI, 30, .inl f2)), (r1, .inr (0, [.ref j1, .int (nI L1.dropLast.length)])), (j1, .inl (cI, 30, .inl f153)), (r3, .inr (0, [.ref j3, .int (nI (((lst L1) :: L3).length))])), (j3, .inl (cI, 30, .inl f160))] H162 := hP1
            have hD : va_D A [(sh, .inr (1, [.ref r1, .ref r2, .ref r3, .ref r4, .int (nI rc), .int (nI bo), .int (lst L1)])), (r4, .inr (0, [.ref j4, .int (nI L4.length)])), (j4, .inl (cI, 30, .inl f4)), (r2, .inr (0, [.ref j2, .int (nI L2.length)])), (j2, .inl (cI, 30, .inl f2)), (r1, .inr (0, [.ref j1, .int (nI L1.dropLast.length)])), (j1, .inl (cI, 30, .inl f153)), (r3, .inr (0, [.ref j3, .int (nI (((lst L1) :: L3).length))])), (j3, .inl (cI, 30, .inl f160))] := hD1
            have hS := hS1
            clear hP1 hD1 hS1
            have hP9 := hP.sub (ws' := [(sh, .inr (1, [.ref r1, .ref r2, .ref r3, .ref r4, .int (nI rc), .int (nI bo), .int (lst L1)])), (r1, .inr (0, [.ref j1, .int (nI L1.dropLast.length)])), (j1, .inl (cI, 30, .inl f153)), (r2, .inr (0, [.ref j2, .int (nI L2.length)])), (j2, .inl (cI, 30, .inl f2)), (r3, .inr (0, [.ref j3, .int (nI (((lst L1) :: L3).length))])), (j3, .inl (cI, 30, .inl f160)), (r4, .inr (0, [.ref j4, .int (nI L4.length)])), (j4, .inl (cI, 30, .inl f4))]) [0, 5, 6, 3, 4, 7, 8, 1, 2] rfl
            have hD9 := hD.sub (ws' := [(sh, .inr (1, [.ref r1, .ref r2, .ref r3, .ref r4, .int (nI rc), .int (nI bo), .int (lst L1)])), (r1, .inr (0, [.ref j1, .int (nI L1.dropLast.length)])), (j1, .inl (cI, 30, .inl f153)), (r2, .inr (0, [.ref j2, .int (nI L2.length)])), (j2, .inl (cI, 30, .inl f2)), (r3, .inr (0, [.ref j3, .int (nI (((lst L1) :: L3).length))])), (j3, .inl (cI, 30, .inl f160)), (r4, .inr (0, [.ref j4, .int (nI L4.length)])), (j4, .inl (cI, 30, .inl f4))]) [0, 5, 6, 3, 4, 7, 8, 1, 2] (by decide) rfl
            exact W.vret hx hb hr (fun t ht hW => ⟨⟨((L1.dropLast, L2, ((lst L1) :: L3), L4), (lst L1)), rfl, (room_b (by omega) (by omega) (Or.inl (Or.inr ⟨by omega, hff⟩)) lv), _, _, _, _, hf154, hR2, hf161, hR4, g_at hP9 hK hD9 ht hW⟩, hS.F ht⟩) hS.2.2 dX1_makeRoom_138
  · have hP9 := hP.sub (ws' := [(sh, .inr (1, [.ref r1, .ref r2, .ref r3, .ref r4, .int (nI rc), .int (nI bo), .int lv])), (r1, .inr (0, [.ref j1, .int (nI L1.length)])), (j1, .inl (cI, 30, .inl f1)), (r2, .inr (0, [.ref j2, .int (nI L2.length)])), (j2, .inl (cI, 30, .inl f2)), (r3, .inr (0, [.ref j3, .int (nI L3.length)])), (j3, .inl (cI, 30, .inl f3)), (r4, .inr (0, [.ref j4, .int (nI L4.length)])), (j4, .inl (cI, 30, .inl f4))]) [0, 5, 6, 7, 8, 1, 2, 3, 4] rfl
    have hD9 := hD.sub (ws' := [(sh, .inr (1, [.ref r1, .ref r2, .ref r3, .ref r4, .int (nI rc), .int (nI bo), .int lv])), (r1, .inr (0, [.ref j1, .int (nI L1.length)])), (j1, .inl (cI, 30, .inl f1)), (r2, .inr (0, [.ref j2, .int (nI L2.length)])), (j2, .inl (cI, 30, .inl f2)), (r3, .inr (0, [.ref j3, .int (nI L3.length)])), (j3, .inl (cI, 30, .inl f3)), (r4, .inr (0, [.ref j4, .int (nI L4.length)])), (j4, .inl (cI, 30, .inl f4))]) [0, 5, 6, 7, 8, 1, 2, 3, 4] (by decide) rfl
    exact W.vret hx hb hr (fun t ht hW => ⟨⟨((L1, L2, L3, L4), lv), rfl, (room_a (by omega) lv), _, _, _, _, hR1, hR2, hR3, hR4, g_at hP9 hK hD9 ht hW⟩, hS.F ht⟩) hS.2.2 dX1_makeRoom_24

set_option maxRecDepth 20000 in
theorem iX1_makeWayForNewJar_X1 : ∀ w ∈ wsX10, w ∈ wsX1_makeWayForNewJar := by decide +kernel
set_option maxHeartbeats 4000000 in
set_option maxRecDepth 100000 in
theorem c_X1_makeWayForNewJar (l : Launch) (G : va_G) (cI : ClassId) (sh r1 r2 r3 r4 j1 j2 j3 j4 : Nat) (f1 f2 f3 f4 : Nat → Int32) (L1 L2 L3 L4 : List Int32) (rc bo : Nat) (lv : Int32) (hR1 : Rw f1 L1) (hR2 : Rw f2 L2) (hR3 : Rw f3 L3) (hR4 : Rw f4 L4) (hn : Num rc bo (L1, L2, L3, L4)) (hj : Jrs (L1, L2, L3, L4)) (sz : Nat) : Met l yX1_makeWayForNewJar wsX1_makeWayForNewJar ({ frames := 3, cells := 0, slots := 0, locals := 65 }) (va_Pc [.ref sh] (gpre G [(cI, .int)] [(sh, .inr (1, [.ref r1, .ref r2, .ref r3, .ref r4, .int (nI rc), .int (nI bo), .int lv])), (r1, .inr (0, [.ref j1, .int (nI L1.length)])), (j1, .inl (cI, 30, .inl f1)), (r2, .inr (0, [.ref j2, .int (nI L2.length)])), (j2, .inl (cI, 30, .inl f2)), (r3, .inr (0, [.ref j3, .int (nI L3.length)])), (j3, .inl (cI, 30, .inl f3)), (r4, .inr (0, [.ref j4, .int (nI L4.length)])), (j4, .inl (cI, 30, .inl f4))] sz)) (va_Qv (fun (u : Q4 × Int32) => u = (sNew rc bo (L1, L2, L3, L4), sNewX rc bo (L1, L2, L3, L4) lv)) (fun (u : Q4 × Int32) t => ∃ f1' f2' f3' f4' : Nat → Int32, Rw f1' u.1.1 ∧ Rw f2' u.1.2.1 ∧ Rw f3' u.1.2.2.1 ∧ Rw f4' u.1.2.2.2 ∧ gat G [(cI, .int)] (va_A [(sh, .inr (1, [.ref r1, .ref r2, .ref r3, .ref r4, .int (nI rc), .int (nI bo), .int lv])), (r1, .inr (0, [.ref j1, .int (nI L1.length)])), (j1, .inl (cI, 30, .inl f1)), (r2, .inr (0, [.ref j2, .int (nI L2.length)])), (j2, .inl (cI, 30, .inl f2)), (r3, .inr (0, [.ref j3, .int (nI L3.length)])), (j3, .inl (cI, 30, .inl f3)), (r4, .inr (0, [.ref j4, .int (nI L4.length)])), (j4, .inl (cI, 30, .inl f4))] sz) [(sh, .inr (1, [.ref r1, .ref r2, .ref r3, .ref r4, .int (nI rc), .int (nI bo), .int u.2])), (r1, .inr (0, [.ref j1, .int (nI u.1.1.length)])), (j1, .inl (cI, 30, .inl f1')), (r2, .inr (0, [.ref j2, .int (nI u.1.2.1.length)])), (j2, .inl (cI, 30, .inl f2')), (r3, .inr (0, [.ref j3, .int (nI u.1.2.2.1.length)])), (j3, .inl (cI, 30, .inl f3')), (r4, .inr (0, [.ref j4, .int (nI u.1.2.2.2.length)])), (j4, .inl (cI, 30, .inl f4'))] t) (va_A [(sh, .inr (1, [.ref r1, .ref r2, .ref r3, .ref r4, .int (nI rc), .int (nI bo), .int lv])), (r1, .inr (0, [.ref j1, .int (nI L1.length)])), (j1, .inl (cI, 30, .inl f1)), (r2, .inr (0, [.ref j2, .int (nI L2.length)])), (j2, .inl (cI, 30, .inl f2)), (r3, .inr (0, [.ref j3, .int (nI L3.length)])), (j3, .inl (cI, 30, .inl f3)), (r4, .inr (0, [.ref j4, .int (nI L4.length)])), (j4, .inl (cI, 30, .inl f4))] sz)) 0 0 (va_A [(sh, .inr (1, [.ref r1, .ref r2, .ref r3, .ref r4, .int (nI rc), .int (nI bo), .int lv])), (r1, .inr (0, [.ref j1, .int (nI L1.length)])), (j1, .inl (cI, 30, .inl f1)), (r2, .inr (0, [.ref j2, .int (nI L2.length)])), (j2, .inl (cI, 30, .inl f2)), (r3, .inr (0, [.ref j3, .int (nI L3.length)])), (j3, .inl (cI, 30, .inl f3)), (r4, .inr (0, [.ref j4, .int (nI L4.length)])), (j4, .inl (cI, 30, .inl f4))] sz) := by
  refine Met.ofW (cc := cX1_makeWayForNewJar) (maxL := 3) (ret := none) (by decide) rfl ?_
  intro p e s m args below meth c s₁ B hml hv
  obtain ⟨rfl, hsz, hP, hK, hD0⟩ := hv
  have hx := B.exec
  have hb := B.bytes
  have hr := B.returns
  have hts := atoms_spec (ws := wsX1_makeWayForNewJar) B.pre
  have hown : s.vm.findClass RX1 = some m.cls := findClass_of_methodNamed B.named
  have hlocks := B.notSynchronized
  subst hsz
  have hD := hD0.self (sz := s.heap.size)
  clear hD0
  generalize hAe : va_A [(sh, .inr (1, [.ref r1, .ref r2, .ref r3, .ref r4, .int (nI rc), .int (nI bo), .int lv])), (r1, .inr (0, [.ref j1, .int (nI L1.length)])), (j1, .inl (cI, 30, .inl f1)), (r2, .inr (0, [.ref j2, .int (nI L2.length)])), (j2, .inl (cI, 30, .inl f2)), (r3, .inr (0, [.ref j3, .int (nI L3.length)])), (j3, .inl (cI, 30, .inl f3)), (r4, .inr (0, [.ref j4, .int (nI L4.length)])), (j4, .inl (cI, 30, .inl f4))] s.heap.size = A at hD ⊢
  have hA : ∀ q : Nat, s.heap.size ≤ q → A q := fun q h => by rw [← hAe]; exact Or.inr h
  have hS : va_S A s.heap s.heap [] := va_S.rf
  have hP : va_P G vwCl [(sh, .inr (1, [.ref r1, .ref r2, .ref r3, .ref r4, .int (nI rc), .int (nI bo), .int lv])), (r1, .inr (0, [.ref j1, .int (nI L1.length)])), (j1, .inl (cI, 30, .inl f1)), (r2, .inr (0, [.ref j2, .int (nI L2.length)])), (j2, .inl (cI, 30, .inl f2)), (r3, .inr (0, [.ref j3, .int (nI L3.length)])), (j3, .inl (cI, 30, .inl f3)), (r4, .inr (0, [.ref j4, .int (nI L4.length)])), (j4, .inl (cI, 30, .inl f4))] s.heap := hP
  have hl := lv_entry ([.ref sh]) (n := 3) (Nat.le_of_ble_eq_true rfl)
  rw [lg_entry_eq]
  generalize (lg_sl ([.ref sh]) ++ List.replicate (3 - (lg_sl ([.ref sh])).length) Slot.unset).toArray = ls at hl ⊢
  have hl : lv_has ls 3 [(0, .ref sh)] := hl
  obtain ⟨hn1, hn2, hn3, hn4, hn5, hn6⟩ : 1 ≤ rc ∧ rc ≤ 12 ∧ bo ≤ rc ∧ L1.length + L2.length ≤ rc ∧ L1.length + L3.length ≤ rc ∧ L1.length + L2.length + L3.length + L4.length ≤ 2 * rc := hn
  obtain ⟨hj1, hj2, hj3, hj4⟩ : allOk L1 ∧ allOk L2 ∧ allOk L3 ∧ allOk L4 := hj
  refine lv_aload_n hx hb dX1_makeWayForNewJar_0 rfl (lv_at hl 0 rfl) ?_
  refine va_get (D := G) (ci := 1) (v := .ref r1) (C := RX1) (T := TX1) (N := 7) hx hb hts iX1_makeWayForNewJar_X1 hown hK hP 0 rfl rfl 0 (by decide) (hts (.fieldLink RX1 14 "GhostPantry$Shelves" "recent" "LGhostPantry$Row;") (by decide +kernel)) (fun _ h9 => h9) rfl dX1_makeWayForNewJar_1 ?_
  have hPc := hP.sub (ws' := [(r1, .inr (0, [.ref j1, .int (nI L1.length)])), (j1, .inl (cI, 30, .inl f1))]) [1, 2] rfl
  have hDc := hD.sub (ws' := [(r1, .inr (0, [.ref j1, .int (nI L1.length)])), (j1, .inl (cI, 30, .inl f1))]) [1, 2] (by decide) rfl
  have hKc := hK.sub (tys' := [(cI, .int)]) [0] rfl
  have hFc := va_free (wc := [(r1, .inr (0, [.ref j1, .int (nI L1.length)])), (j1, .inl (cI, 30, .inl f1))]) hD hS hA [1, 2] rfl
  refine va_calli (va_runV (As := []) (rest := []) ⟨hx, hb, hml, hown, hts⟩ (c_X0_length l G cI r1 j1 f1 L1 hR1 (by omega)  s.heap.size) (cwV 0 hts gX1_makeWayForNewJar_X0_length rfl rfl rfl (by decide +kernel) ⟨Nat.le_of_ble_eq_true rfl, Nat.le_of_ble_eq_true rfl⟩) (g_preV (As := []) hPc hKc hDc 0 rfl rfl) rfl rfl hl.1 rfl (lv_room (Nat.le_of_ble_eq_true rfl)) dX1_makeWayForNewJar_4 ⟨(Nat.le_of_ble_eq_true rfl), (Nat.le_of_ble_eq_true rfl)⟩) hS (fun q _ h => hFc q h) hFc (fun r2 u3 t H1 locs ht hvm hw hB hz1 hk1 hS1 => ?_)
  subst hw
  obtain ⟨hP1, hD1⟩ := g_join (wc := [(r1, .inr (0, [.ref j1, .int (nI L1.length)])), (j1, .inl (cI, 30, .inl f1))]) (wr := [(sh, .inr (1, [.ref r1, .ref r2, .ref r3, .ref r4, .int (nI rc), .int (nI bo), .int lv])), (r2, .inr (0, [.ref j2, .int (nI L2.length)])), (j2, .inl (cI, 30, .inl f2)), (r3, .inr (0, [.ref j3, .int (nI L3.length)])), (j3, .inl (cI, 30, .inl f3)), (r4, .inr (0, [.ref j4, .int (nI L4.length)])), (j4, .inl (cI, 30, .inl f4))]) (w1 := [(r1, .inr (0, [.ref j1, .int (nI L1.length)])), (j1, .inl (cI, 30, .inl f1))]) hP hD [1, 2] [0, 3, 4, 5, 6, 7, 8] rfl rfl (by decide) (by decide) ht hk1 hFc hB
  clear hB hk1 hz1 hvm ht hPc hDc hKc hFc
  clear hP hD hS
  have hP : va_P G vwCl [(sh, .inr (1, [.ref r1, .ref r2, .ref r3, .ref r4, .int (nI rc), .int (nI bo), .int lv])), (r2, .inr (0, [.ref j2, .int (nI L2.length)])), (j2, .inl (cI, 30, .inl f2)), (r3, .inr (0, [.ref j3, .int (nI L3.length)])), (j3, .inl (cI, 30, .inl f3)), (r4, .inr (0, [.ref j4, .int (nI L4.length)])), (j4, .inl (cI, 30, .inl f4)), (r1, .inr (0, [.ref j1, .int (nI L1.length)])), (j1, .inl (cI, 30, .inl f1))] H1 := hP1
  have hD : va_D A [(sh, .inr (1, [.ref r1, .ref r2, .ref r3, .ref r4, .int (nI rc), .int (nI bo), .int lv])), (r2, .inr (0, [.ref j2, .int (nI L2.length)])), (j2, .inl (cI, 30, .inl f2)), (r3, .inr (0, [.ref j3, .int (nI L3.length)])), (j3, .inl (cI, 30, .inl f3)), (r4, .inr (0, [.ref j4, .int (nI L4.length)])), (j4, .inl (cI, 30, .inl f4)), (r1, .inr (0, [.ref j1, .int (nI L1.length)])), (j1, .inl (cI, 30, .inl f1))] := hD1
  have hS := hS1
  clear hP1 hD1 hS1
  refine lv_aload_n hx hb dX1_makeWayForNewJar_7 rfl (lv_at hl 0 rfl) ?_
  refine va_get (D := G) (ci := 1) (v := .ref r3) (C := RX1) (T := TX1) (N := 7) hx hb hts iX1_makeWayForNewJar_X1 hown hK hP 0 rfl rfl 2 (by decide) (hts (.fieldLink RX1 23 "GhostPantry$Shelves" "recentGhosts" "LGhostPantry$Row;") (by decide +kernel)) (fun _ h9 => h9) rfl dX1_makeWayForNewJar_8 ?_
  have hPc := hP.sub (ws' := [(r3, .inr (0, [.ref j3, .int (nI L3.length)])), (j3, .inl (cI, 30, .inl f3))]) [3, 4] rfl
  have hDc := hD.sub (ws' := [(r3, .inr (0, [.ref j3, .int (nI L3.length)])), (j3, .inl (cI, 30, .inl f3))]) [3, 4] (by decide) rfl
  have hKc := hK.sub (tys' := [(cI, .int)]) [0] rfl
  have hFc := va_free (wc := [(r3, .inr (0, [.ref j3, .int (nI L3.length)])), (j3, .inl (cI, 30, .inl f3))]) hD hS hA [3, 4] rfl
  refine va_calli (va_runV (As := []) (rest := [.int (nI L1.length)]) ⟨hx, hb, hml, hown, hts⟩ (c_X0_length l G cI r3 j3 f3 L3 hR3 (by omega)  H1.size) (cwV 0 hts gX1_makeWayForNewJar_X0_length rfl rfl rfl (by decide +kernel) ⟨Nat.le_of_ble_eq_true rfl, Nat.le_of_ble_eq_true rfl⟩) (g_preV (As := []) hPc hKc hDc 0 rfl rfl) rfl rfl hl.1 rfl (lv_room (Nat.le_of_ble_eq_true rfl)) dX1_makeWayForNewJar_11 ⟨(Nat.le_of_ble_eq_true rfl), (Nat.le_of_ble_eq_true rfl)⟩) hS (fun q _ h => hFc q h) hFc (fun r5 u6 t H4 locs ht hvm hw hB hz1 hk1 hS1 => ?_)
  subst hw
  obtain ⟨hP1, hD1⟩ := g_join (wc := [(r3, .inr (0, [.ref j3, .int (nI L3.length)])), (j3, .inl (cI, 30, .inl f3))]) (wr := [(sh, .inr (1, [.ref r1, .ref r2, .ref r3, .ref r4, .int (nI rc), .int (nI bo), .int lv])), (r2, .inr (0, [.ref j2, .int (nI L2.length)])), (j2, .inl (cI, 30, .inl f2)), (r4, .inr (0, [.ref j4, .int (nI L4.length)])), (j4, .inl (cI, 30, .inl f4)), (r1, .inr (0, [.ref j1, .int (nI L1.length)])), (j1, .inl (cI, 30, .inl f1))]) (w1 := [(r3, .inr (0, [.ref j3, .int (nI L3.length)])), (j3, .inl (cI, 30, .inl f3))]) hP hD [3, 4] [0, 1, 2, 5, 6, 7, 8] rfl rfl (by decide) (by decide) ht hk1 hFc hB
  clear hB hk1 hz1 hvm ht hPc hDc hKc hFc
  clear hP hD hS
  have hP : va_P G vwCl [(sh, .inr (1, [.ref r1, .ref r2, .ref r3, .ref r4, .int (nI rc), .int (nI bo), .int lv])), (r2, .inr (0, [.ref j2, .int (nI L2.length)])), (j2, .inl (cI, 30, .inl f2)), (r4, .inr (0, [.ref j4, .int (nI L4.length)])), (j4, .inl (cI, 30, .inl f4)), (r1, .inr (0, [.ref j1, .int (nI L1.length)])), (j1, .inl (cI, 30, .inl f1)), (r3, .inr (0, [.ref j3, .int (nI L3.length)])), (j3, .inl (cI, 30, .inl f3))] H4 := hP1
  have hD : va_D A [(sh, .inr (1, [.ref r1, .ref r2, .ref r3, .ref r4, .int (nI rc), .int (nI bo), .int lv])), (r2, .inr (0, [.ref j2, .int (nI L2.length)])), (j2, .inl (cI, 30, .inl f2)), (r4, .inr (0, [.ref j4, .int (nI L4.length)])), (j4, .inl (cI, 30, .inl f4)), (r1, .inr (0, [.ref j1, .int (nI L1.length)])), (j1, .inl (cI, 30, .inl f1)), (r3, .inr (0, [.ref j3, .int (nI L3.length)])), (j3, .inl (cI, 30, .inl f3))] := hD1
  have hS := hS1
  clear hP1 hD1 hS1
  refine g_iadd hx hb dX1_makeWayForNewJar_14 ?_
  refine lv_istore_n (lv' := [(1, .int (nI (L1.length + L3.length))), (0, .ref sh)]) hx hb dX1_makeWayForNewJar_15 rfl hl (by decide) rfl (fun ls hl => ?_)
  refine lv_iload_n hx hb dX1_makeWayForNewJar_16 rfl (lv_at hl 0 rfl) ?_
  refine lv_aload_n hx hb dX1_makeWayForNewJar_17 rfl (lv_at hl 1 rfl) ?_
  refine va_get (D := G) (ci := 1) (v := .ref r2) (C := RX1) (T := TX1) (N := 7) hx hb hts iX1_makeWayForNewJar_X1 hown hK hP 0 rfl rfl 1 (by decide) (hts (.fieldLink RX1 20 "GhostPantry$Shelves" "frequent" "LGhostPantry$Row;") (by decide +kernel)) (fun _ h9 => h9) rfl dX1_makeWayForNewJar_18 ?_
  have hPc := hP.sub (ws' := [(r2, .inr (0, [.ref j2, .int (nI L2.length)])), (j2, .inl (cI, 30, .inl f2))]) [1, 2] rfl
  have hDc := hD.sub (ws' := [(r2, .inr (0, [.ref j2, .int (nI L2.length)])), (j2, .inl (cI, 30, .inl f2))]) [1, 2] (by decide) rfl
  have hKc := hK.sub (tys' := [(cI, .int)]) [0] rfl
  have hFc := va_free (wc := [(r2, .inr (0, [.ref j2, .int (nI L2.length)])), (j2, .inl (cI, 30, .inl f2))]) hD hS hA [1, 2] rfl
  refine va_calli (va_runV (As := []) (rest := [.int (nI (L1.length + L3.length))]) ⟨hx, hb, hml, hown, hts⟩ (c_X0_length l G cI r2 j2 f2 L2 hR2 (by omega)  H4.size) (cwV 0 hts gX1_makeWayForNewJar_X0_length rfl rfl rfl (by decide +kernel) ⟨Nat.le_of_ble_eq_true rfl, Nat.le_of_ble_eq_true rfl⟩) (g_preV (As := []) hPc hKc hDc 0 rfl rfl) rfl rfl hl.1 rfl (lv_room (Nat.le_of_ble_eq_true rfl)) dX1_makeWayForNewJar_21 ⟨(Nat.le_of_ble_eq_true rfl), (Nat.le_of_ble_eq_true rfl)⟩) hS (fun q _ h => hFc q h) hFc (fun r8 u9 t H7 locs ht hvm hw hB hz1 hk1 hS1 => ?_)
  subst hw
  obtain ⟨hP1, hD1⟩ := g_join (wc := [(r2, .inr (0, [.ref j2, .int (nI L2.length)])), (j2, .inl (cI, 30, .inl f2))]) (wr := [(sh, .inr (1, [.ref r1, .ref r2, .ref r3, .ref r4, .int (nI rc), .int (nI bo), .int lv])), (r4, .inr (0, [.ref j4, .int (nI L4.length)])), (j4, .inl (cI, 30, .inl f4)), (r1, .inr (0, [.ref j1, .int (nI L1.length)])), (j1, .inl (cI, 30, .inl f1)), (r3, .inr (0, [.ref j3, .int (nI L3.length)])), (j3, .inl (cI, 30, .inl f3))]) (w1 := [(r2, .inr (0, [.ref j2, .int (nI L2.length)])), (j2, .inl (cI, 30, .inl f2))]) hP hD [1, 2] [0, 3, 4, 5, 6, 7, 8] rfl rfl (by decide) (by decide) ht hk1 hFc hB
  clear hB hk1 hz1 hvm ht hPc hDc hKc hFc
  clear hP hD hS
  have hP : va_P G vwCl [(sh, .inr (1, [.ref r1, .ref r2, .ref r3, .ref r4, .int (nI rc), .int (nI bo), .int lv])), (r4, .inr (0, [.ref j4, .int (nI L4.length)])), (j4, .inl (cI, 30, .inl f4)), (r1, .inr (0, [.ref j1, .int (nI L1.length)])), (j1, .inl (cI, 30, .inl f1)), (r3, .inr (0, [.ref j3, .int (nI L3.length)])), (j3, .inl (cI, 30, .inl f3)), (r2, .inr (0, [.ref j2, .int (nI L2.length)])), (j2, .inl (cI, 30, .inl f2))] H7 := hP1
  have hD : va_D A [(sh, .inr (1, [.ref r1, .ref r2, .ref r3, .ref r4, .int (nI rc), .int (nI bo), .int lv])), (r4, .inr (0, [.ref j4, .int (nI L4.length)])), (j4, .inl (cI, 30, .inl f4)), (r1, .inr (0, [.ref j1, .int (nI L1.length)])), (j1, .inl (cI, 30, .inl f1)), (r3, .inr (0, [.ref j3, .int (nI L3.length)])), (j3, .inl (cI, 30, .inl f3)), (r2, .inr (0, [.ref j2, .int (nI L2.length)])), (j2, .inl (cI, 30, .inl f2))] := hD1
  have hS := hS1
  clear hP1 hD1 hS1
  refine g_iadd hx hb dX1_makeWayForNewJar_24 ?_
  refine lv_aload_n hx hb dX1_makeWayForNewJar_25 rfl (lv_at hl 1 rfl) ?_
  refine va_get (D := G) (ci := 1) (v := .ref r4) (C := RX1) (T := TX1) (N := 7) hx hb hts iX1_makeWayForNewJar_X1 hown hK hP 0 rfl rfl 3 (by decide) (hts (.fieldLink RX1 26 "GhostPantry$Shelves" "frequentGhosts" "LGhostPantry$Row;") (by decide +kernel)) (fun _ h9 => h9) rfl dX1_makeWayForNewJar_26 ?_
  have hPc := hP.sub (ws' := [(r4, .inr (0, [.ref j4, .int (nI L4.length)])), (j4, .inl (cI, 30, .inl f4))]) [1, 2] rfl
  have hDc := hD.sub (ws' := [(r4, .inr (0, [.ref j4, .int (nI L4.length)])), (j4, .inl (cI, 30, .inl f4))]) [1, 2] (by decide) rfl
  have hKc := hK.sub (tys' := [(cI, .int)]) [0] rfl
  have hFc := va_free (wc := [(r4, .inr (0, [.ref j4, .int (nI L4.length)])), (j4, .inl (cI, 30, .inl f4))]) hD hS hA [1, 2] rfl
  refine va_calli (va_runV (As := []) (rest := [.int (nI ((L1.length + L3.length) + L2.length))]) ⟨hx, hb, hml, hown, hts⟩ (c_X0_length l G cI r4 j4 f4 L4 hR4 (by omega)  H7.size) (cwV 0 hts gX1_makeWayForNewJar_X0_length rfl rfl rfl (by decide +kernel) ⟨Nat.le_of_ble_eq_true rfl, Nat.le_of_ble_eq_true rfl⟩) (g_preV (As := []) hPc hKc hDc 0 rfl rfl) rfl rfl hl.1 rfl (lv_room (Nat.le_of_ble_eq_true rfl)) dX1_makeWayForNewJar_29 ⟨(Nat.le_of_ble_eq_true rfl), (Nat.le_of_ble_eq_true rfl)⟩) hS (fun q _ h => hFc q h) hFc (fun r11 u12 t H10 locs ht hvm hw hB hz1 hk1 hS1 => ?_)
  subst hw
  obtain ⟨hP1, hD1⟩ := g_join (wc := [(r4, .inr (0, [.ref j4, .int (nI L4.length)])), (j4, .inl (cI, 30, .inl f4))]) (wr := [(sh, .inr (1, [.ref r1, .ref r2, .ref r3, .ref r4, .int (nI rc), .int (nI bo), .int lv])), (r1, .inr (0, [.ref j1, .int (nI L1.length)])), (j1, .inl (cI, 30, .inl f1)), (r3, .inr (0, [.ref j3, .int (nI L3.length)])), (j3, .inl (cI, 30, .inl f3)), (r2, .inr (0, [.ref j2, .int (nI L2.length)])), (j2, .inl (cI, 30, .inl f2))]) (w1 := [(r4, .inr (0, [.ref j4, .int (nI L4.length)])), (j4, .inl (cI, 30, .inl f4))]) hP hD [1, 2] [0, 3, 4, 5, 6, 7, 8] rfl rfl (by decide) (by decide) ht hk1 hFc hB
  clear hB hk1 hz1 hvm ht hPc hDc hKc hFc
  clear hP hD hS
  have hP : va_P G vwCl [(sh, .inr (1, [.ref r1, .ref r2, .ref r3, .ref r4, .int (nI rc), .int (nI bo), .int lv])), (r1, .inr (0, [.ref j1, .int (nI L1.length)])), (j1, .inl (cI, 30, .inl f1)), (r3, .inr (0, [.ref j3, .int (nI L3.length)])), (j3, .inl (cI, 30, .inl f3)), (r2, .inr (0, [.ref j2, .int (nI L2.length)])), (j2, .inl (cI, 30, .inl f2)), (r4, .inr (0, [.ref j4, .int (nI L4.length)])), (j4, .inl (cI, 30, .inl f4))] H10 := hP1
  have hD : va_D A [(sh, .inr (1, [.ref r1, .ref r2, .ref r3, .ref r4, .int (nI rc), .int (nI bo), .int lv])), (r1, .inr (0, [.ref j1, .int (nI L1.length)])), (j1, .inl (cI, 30, .inl f1)), (r3, .inr (0, [.ref j3, .int (nI L3.length)])), (j3, .inl (cI, 30, .inl f3)), (r2, .inr (0, [.ref j2, .int (nI L2.length)])), (j2, .inl (cI, 30, .inl f2)), (r4, .inr (0, [.ref j4, .int (nI L4.length)])), (j4, .inl (cI, 30, .inl f4))] := hD1
  have hS := hS1
  clear hP1 hD1 hS1
  refine g_iadd hx hb dX1_makeWayForNewJar_32 ?_
  refine lv_istore_n (lv' := [(2, .int (nI (((L1.length + L3.length) + L2.length) + L4.length))), (1, .int (nI (L1.length + L3.length))), (0, .ref sh)]) hx hb dX1_makeWayForNewJar_33 rfl hl (by decide) rfl (fun ls hl => ?_)
  refine lv_iload_n hx hb dX1_makeWayForNewJar_34 rfl (lv_at hl 1 rfl) ?_
  refine lv_aload_n hx hb dX1_makeWayForNewJar_35 rfl (lv_at hl 2 rfl) ?_
  refine va_get (D := G) (ci := 1) (v := .int (nI rc)) (C := RX1) (T := TX1) (N := 7) hx hb hts iX1_makeWayForNewJar_X1 hown hK hP 0 rfl rfl 4 (by decide) (hts (.fieldLink RX1 29 "GhostPantry$Shelves" "room" "I") (by decide +kernel)) (fun _ h9 => h9) rfl dX1_makeWayForNewJar_36 ?_
  refine g_icmp_ne (tgt := 82) hx hb dX1_makeWayForNewJar_39 (by decide) (by omega) (by omega) (fun c13 => ?_) (fun c13 => ?_)
  · refine lv_iload_n hx hb dX1_makeWayForNewJar_82 rfl (lv_at hl 0 rfl) ?_
    refine lv_aload_n hx hb dX1_makeWayForNewJar_83 rfl (lv_at hl 2 rfl) ?_
    refine va_get (D := G) (ci := 1) (v := .int (nI rc)) (C := RX1) (T := TX1) (N := 7) hx hb hts iX1_makeWayForNewJar_X1 hown hK hP 0 rfl rfl 4 (by decide) (hts (.fieldLink RX1 29 "GhostPantry$Shelves" "room" "I") (by decide +kernel)) (fun _ h9 => h9) rfl dX1_makeWayForNewJar_84 ?_
    refine g_icmp_lt (tgt := 113) hx hb dX1_makeWayForNewJar_87 (by decide) (by omega) (by omega) (fun c14 => ?_) (fun c14 => ?_)
    · have hP9 := hP.sub (ws' := [(sh, .inr (1, [.ref r1, .ref r2, .ref r3, .ref r4, .int (nI rc), .int (nI bo), .int lv])), (r1, .inr (0, [.ref j1, .int (nI L1.length)])), (j1, .inl (cI, 30, .inl f1)), (r2, .inr (0, [.ref j2, .int (nI L2.length)])), (j2, .inl (cI, 30, .inl f2)), (r3, .inr (0, [.ref j3, .int (nI L3.length)])), (j3, .inl (cI, 30, .inl f3)), (r4, .inr (0, [.ref j4, .int (nI L4.length)])), (j4, .inl (cI, 30, .inl f4))]) [0, 1, 2, 5, 6, 3, 4, 7, 8] rfl
      have hD9 := hD.sub (ws' := [(sh, .inr (1, [.ref r1, .ref r2, .ref r3, .ref r4, .int (nI rc), .int (nI bo), .int lv])), (r1, .inr (0, [.ref j1, .int (nI L1.length)])), (j1, .inl (cI, 30, .inl f1)), (r2, .inr (0, [.ref j2, .int (nI L2.length)])), (j2, .inl (cI, 30, .inl f2)), (r3, .inr (0, [.ref j3, .int (nI L3.length)])), (j3, .inl (cI, 30, .inl f3)), (r4, .inr (0, [.ref j4, .int (nI L4.length)])), (j4, .inl (cI, 30, .inl f4))]) [0, 1, 2, 5, 6, 3, 4, 7, 8] (by decide) rfl
      exact W.vret hx hb hr (fun t ht hW => ⟨⟨((L1, L2, L3, L4), lv), rfl, (new_e (by omega) (by omega)), _, _, _, _, hR1, hR2, hR3, hR4, g_at hP9 hK hD9 ht hW⟩, hS.F ht⟩) hS.2.2 dX1_makeWayForNewJar_113
    · refine lv_iload_n hx hb dX1_makeWayForNewJar_90 rfl (lv_at hl 0 rfl) ?_
      refine lv_iconst (v := (nI 2)) hx hb dX1_makeWayForNewJar_91 (by decide +kernel) ?_
      refine lv_aload_n hx hb dX1_makeWayForNewJar_92 rfl (lv_at hl 2 rfl) ?_
      refine va_get (D := G) (ci := 1) (v := .int (nI rc)) (C := RX1) (T := TX1) (N := 7) hx hb hts iX1_makeWayForNewJar_X1 hown hK hP 0 rfl rfl 4 (by decide) (hts (.fieldLink RX1 29 "GhostPantry$Shelves" "room" "I") (by decide +kernel)) (fun _ h9 => h9) rfl dX1_makeWayForNewJar_93 ?_
      refine g_imul hx hb dX1_makeWayForNewJar_96 ?_
      refine g_icmp_ne (tgt := 108) hx hb dX1_makeWayForNewJar_97 (by decide) (by omega) (by omega) (fun c15 => ?_) (fun c15 => ?_)
      · have hn16 : Num rc bo (L1, L2, L3, L4) := by simp only [Num, List.length_dropLast]; omega
        refine lv_aload_n hx hb dX1_makeWayForNewJar_108 rfl (lv_at hl 2 rfl) ?_
        refine lv_iconst (v := (nI 0)) hx hb dX1_makeWayForNewJar_109 (by decide +kernel) ?_
        have hPc := hP.sub (ws' := [(sh, .inr (1, [.ref r1, .ref r2, .ref r3, .ref r4, .int (nI rc), .int (nI bo), .int lv])), (r1, .inr (0, [.ref j1, .int (nI L1.length)])), (j1, .inl (cI, 30, .inl f1)), (r2, .inr (0, [.ref j2, .int (nI L2.length)])), (j2, .inl (cI, 30, .inl f2)), (r3, .inr (0, [.ref j3, .int (nI L3.length)])), (j3, .inl (cI, 30, .inl f3)), (r4, .inr (0, [.ref j4, .int (nI L4.length)])), (j4, .inl (cI, 30, .inl f4))]) [0, 1, 2, 5, 6, 3, 4, 7, 8] rfl
        have hDc := hD.sub (ws' := [(sh, .inr (1, [.ref r1, .ref r2, .ref r3, .ref r4, .int (nI rc), .int (nI bo), .int lv])), (r1, .inr (0, [.ref j1, .int (nI L1.length)])), (j1, .inl (cI, 30, .inl f1)), (r2, .inr (0, [.ref j2, .int (nI L2.length)])), (j2, .inl (cI, 30, .inl f2)), (r3, .inr (0, [.ref j3, .int (nI L3.length)])), (j3, .inl (cI, 30, .inl f3)), (r4, .inr (0, [.ref j4, .int (nI L4.length)])), (j4, .inl (cI, 30, .inl f4))]) [0, 1, 2, 5, 6, 3, 4, 7, 8] (by decide) rfl
        have hKc := hK.sub (tys' := [(cI, .int)]) [0] rfl
        have hFc := va_free (wc := [(sh, .inr (1, [.ref r1, .ref r2, .ref r3, .ref r4, .int (nI rc), .int (nI bo), .int lv])), (r1, .inr (0, [.ref j1, .int (nI L1.length)])), (j1, .inl (cI, 30, .inl f1)), (r2, .inr (0, [.ref j2, .int (nI L2.length)])), (j2, .inl (cI, 30, .inl f2)), (r3, .inr (0, [.ref j3, .int (nI L3.length)])), (j3, .inl (cI, 30, .inl f3)), (r4, .inr (0, [.ref j4, .int (nI L4.length)])), (j4, .inl (cI, 30, .inl f4))]) hD hS hA [0, 1, 2, 5, 6, 3, 4, 7, 8] rfl
        refine va_callv (va_runV (As := [.int (nI 0)]) (rest := []) ⟨hx, hb, hml, hown, hts⟩ (c_X1_makeRoom l G cI sh r1 r2 r3 r4 j1 j2 j3 j4 f1 f2 f3 f4 L1 L2 L3 L4 rc bo lv hR1 hR2 hR3 hR4 hn16 ⟨hj1, hj2, hj3, hj4⟩ false H10.size) (cwV 1 hts gX1_makeWayForNewJar_X1_makeRoom rfl rfl rfl (by decide +kernel) ⟨Nat.le_of_ble_eq_true rfl, Nat.le_of_ble_eq_true rfl⟩) (g_preV (As := [.int (nI 0)]) hPc hKc hDc 0 rfl rfl) rfl rfl hl.1 rfl (lv_room (Nat.le_of_ble_eq_true rfl)) dX1_makeWayForNewJar_110 ⟨(Nat.le_of_ble_eq_true rfl), (Nat.le_of_ble_eq_true rfl)⟩) hS (fun q _ h => hFc q h) hFc (fun u33 t H31 locs ht hvm hw hB hz1 hk1 hS1 => ?_)
        obtain ⟨⟨M17, M18, M19, M20⟩, x29⟩ := u33
        obtain ⟨f21, f22, f23, f24, hf25, hf26, hf27, hf28, hB⟩ := hB
        have hf25 : Rw f21 M17 := hf25
        have hf26 : Rw f22 M18 := hf26
        have hf27 : Rw f23 M19 := hf27
        have hf28 : Rw f24 M20 := hf28
        have hq30 : (M17, M18, M19, M20) = sRoom rc bo false (L1, L2, L3, L4) := congrArg Prod.fst hw
        have hx30 : x29 = sRoomX rc bo false (L1, L2, L3, L4) lv := congrArg Prod.snd hw
        have a30 := room_lt (ff := false) hn16
        rw [← hq30] at a30
        have b30 := room_sum (ff := false) hn16
        rw [← hq30] at b30
        dsimp only at a30 b30
        obtain ⟨b301, b302, b303, b304⟩ := b30
        obtain ⟨hP1, hD1⟩ := g_join (wc := [(sh, .inr (1, [.ref r1, .ref r2, .ref r3, .ref r4, .int (nI rc), .int (nI bo), .int lv])), (r1, .inr (0, [.ref j1, .int (nI L1.length)])), (j1, .inl (cI, 30, .inl f1)), (r2, .inr (0, [.ref j2, .int (nI L2.length)])), (j2, .inl (cI, 30, .inl f2)), (r3, .inr (0, [.ref j3, .int (nI L3.length)])), (j3, .inl (cI, 30, .inl f3)), (r4, .inr (0, [.ref j4, .int (nI L4.length)])), (j4, .inl (cI, 30, .inl f4))]) (wr := []) (w1 := [(sh, .inr (1, [.ref r1, .ref r2, .ref r3, .ref r4, .int (nI rc), .int (nI bo), .int x29])), (r1, .inr (0, [.ref j1, .int (nI M17.length)])), (j1, .inl (cI, 30, .inl f21)), (r2, .inr (0, [.ref j2, .int (nI M18.length)])), (j2, .inl (cI, 30, .inl f22)), (r3, .inr (0, [.ref j3, .int (nI M19.length)])), (j3, .inl (cI, 30, .inl f23)), (r4, .inr (0, [.ref j4, .int (nI M20.length)])), (j4, .inl (cI, 30, .inl f24))]) hP hD [0, 1, 2, 5, 6, 3, 4, 7, 8] [] rfl rfl (by decide) (by decide) ht hk1 hFc hB
        clear hB hk1 hz1 hvm ht hPc hDc hKc hFc
        clear hP hD hS
        have hP : va_P G vwCl [(sh, .inr (1, [.ref r1, .ref r2, .ref r3, .ref r4, .int (nI rc), .int (nI bo), .int x29])), (r1, .inr (0, [.ref j1, .int (nI M17.length)])), (j1, .inl (cI, 30, .inl f21)), (r2, .inr (0, [.ref j2, .int (nI M18.length)])), (j2, .inl (cI, 30, .inl f22)), (r3, .inr (0, [.ref j3, .int (nI M19.length)])), (j3, .inl (cI, 30, .inl f23)), (r4, .inr (0, [.ref j4, .int (nI M20.length)])), (j4, .inl (cI, 30, .inl f24))] H31 := hP1
        have hD : va_D A [(sh, .inr (1, [.ref r1, .ref r2, .ref r3, .ref r4, .int (nI rc), .int (nI bo), .int x29])), (r1, .inr (0, [.ref j1, .int (nI M17.length)])), (j1, .inl (cI, 30, .inl f21)), (r2, .inr (0, [.ref j2, .int (nI M18.length)])), (j2, .inl (cI, 30, .inl f22)), (r3, .inr (0, [.ref j3, .int (nI M19.length)])), (j3, .inl (cI, 30, .inl f23)), (r4, .inr (0, [.ref j4, .int (nI M20.length)])), (j4, .inl (cI, 30, .inl f24))] := hD1
        have hS := hS1
        clear hP1 hD1 hS1
        have hP9 := hP.sub (ws' := [(sh, .inr (1, [.ref r1, .ref r2, .ref r3, .ref r4, .int (nI rc), .int (nI bo), .int x29])), (r1, .inr (0, [.ref j1, .int (nI M17.length)])), (j1, .inl (cI, 30, .inl f21)), (r2, .inr (0, [.ref j2, .int (nI M18.length)])), (j2, .inl (cI, 30, .inl f22)), (r3, .inr (0, [.ref j3, .int (nI M19.length)])), (j3, .inl (cI, 30, .inl f23)), (r4, .inr (0, [.ref j4, .int (nI M20.length)])), (j4, .inl (cI, 30, .inl f24))]) [0, 1, 2, 3, 4, 5, 6, 7, 8] rfl
        have hD9 := hD.sub (ws' := [(sh, .inr (1, [.ref r1, .ref r2, .ref r3, .ref r4, .int (nI rc), .int (nI bo), .int x29])), (r1, .inr (0, [.ref j1, .int (nI M17.length)])), (j1, .inl (cI, 30, .inl f21)), (r2, .inr (0, [.ref j2, .int (nI M18.length)])), (j2, .inl (cI, 30, .inl f22)), (r3, .inr (0, [.ref j3, .int (nI M19.length)])), (j3, .inl (cI, 30, .inl f23)), (r4, .inr (0, [.ref j4, .int (nI M20.length)])), (j4, .inl (cI, 30, .inl f24))]) [0, 1, 2, 3, 4, 5, 6, 7, 8] (by decide) rfl
        exact W.vret hx hb hr (fun t ht hW => ⟨⟨((M17, M18, M19, M20), x29), rfl, (new_d (by omega) (by omega) (by omega) (by rw [hq30, hx30])), _, _, _, _, hf25, hf26, hf27, hf28, g_at hP9 hK hD9 ht hW⟩, hS.F ht⟩) hS.2.2 dX1_makeWayForNewJar_113
      · refine lv_aload_n hx hb dX1_makeWayForNewJar_100 rfl (lv_at hl 2 rfl) ?_
        refine va_get (D := G) (ci := 1) (v := .ref r4) (C := RX1) (T := TX1) (N := 7) hx hb hts iX1_makeWayForNewJar_X1 hown hK hP 0 rfl rfl 3 (by decide) (hts (.fieldLink RX1 26 "GhostPantry$Shelves" "frequentGhosts" "LGhostPantry$Row;") (by decide +kernel)) (fun _ h9 => h9) rfl dX1_makeWayForNewJar_101 ?_
        have hPc := hP.sub (ws' := [(r4, .inr (0, [.ref j4, .int (nI L4.length)])), (j4, .inl (cI, 30, .inl f4))]) [7, 8] rfl
        have hDc := hD.sub (ws' := [(r4, .inr (0, [.ref j4, .int (nI L4.length)])), (j4, .inl (cI, 30, .inl f4))]) [7, 8] (by decide) rfl
        have hKc := hK.sub (tys' := [(cI, .int)]) [0] rfl
        have hFc := va_free (wc := [(r4, .inr (0, [.ref j4, .int (nI L4.length)])), (j4, .inl (cI, 30, .inl f4))]) hD hS hA [7, 8] rfl
        refine va_calli (va_runV (As := []) (rest := []) ⟨hx, hb, hml, hown, hts⟩ (c_X0_takeLast l G cI r4 j4 f4 L4 hR4 (by omega) (by omega) H10.size) (cwV 0 hts gX1_makeWayForNewJar_X0_takeLast rfl rfl rfl (by decide +kernel) ⟨Nat.le_of_ble_eq_true rfl, Nat.le_of_ble_eq_true rfl⟩) (g_preV (As := []) hPc hKc hDc 0 rfl rfl) rfl rfl hl.1 rfl (lv_room (Nat.le_of_ble_eq_true rfl)) dX1_makeWayForNewJar_104 ⟨(Nat.le_of_ble_eq_true rfl), (Nat.le_of_ble_eq_true rfl)⟩) hS (fun q _ h => hFc q h) hFc (fun r37 u38 t H36 locs ht hvm hw hB hz1 hk1 hS1 => ?_)
        subst hw
        obtain ⟨f34, hf35, hB⟩ := hB
        obtain ⟨hP1, hD1⟩ := g_join (wc := [(r4, .inr (0, [.ref j4, .int (nI L4.length)])), (j4, .inl (cI, 30, .inl f4))]) (wr := [(sh, .inr (1, [.ref r1, .ref r2, .ref r3, .ref r4, .int (nI rc), .int (nI bo), .int lv])), (r1, .inr (0, [.ref j1, .int (nI L1.length)])), (j1, .inl (cI, 30, .inl f1)), (r3, .inr (0, [.ref j3, .int (nI L3.length)])), (j3, .inl (cI, 30, .inl f3)), (r2, .inr (0, [.ref j2, .int (nI L2.length)])), (j2, .inl (cI, 30, .inl f2))]) (w1 := [(r4, .inr (0, [.ref j4, .int (nI L4.dropLast.length)])), (j4, .inl (cI, 30, .inl f34))]) hP hD [7, 8] [0, 1, 2, 3, 4, 5, 6] rfl rfl (by decide) (by decide) ht hk1 hFc hB
        clear hB hk1 hz1 hvm ht hPc hDc hKc hFc
        clear hP hD hS
        have hP : va_P G vwCl [(sh, .inr (1, [.ref r1, .ref r2, .ref r3, .ref r4, .int (nI rc), .int (nI bo), .int lv])), (r1, .inr (0, [.ref j1, .int (nI L1.length)])), (j1, .inl (cI, 30, .inl f1)), (r3, .inr (0, [.ref j3, .int (nI L3.length)])), (j3, .inl (cI, 30, .inl f3)), (r2, .inr (0, [.ref j2, .int (nI L2.length)])), (j2, .inl (cI, 30, .inl f2)), (r4, .inr (0, [.ref j4, .int (nI L4.dropLast.length)])), (j4, .inl (cI, 30, .inl f34))] H36 := hP1
        have hD : va_D A [(sh, .inr (1, [.ref r1, .ref r2, .ref r3, .ref r4, .int (nI rc), .int (nI bo), .int lv])), (r1, .inr (0, [.ref j1, .int (nI L1.length)])), (j1, .inl (cI, 30, .inl f1)), (r3, .inr (0, [.ref j3, .int (nI L3.length)])), (j3, .inl (cI, 30, .inl f3)), (r2, .inr (0, [.ref j2, .int (nI L2.length)])), (j2, .inl (cI, 30, .inl f2)), (r4, .inr (0, [.ref j4, .int (nI L4.dropLast.length)])), (j4, .inl (cI, 30, .inl f34))] := hD1
        have hS := hS1
        clear hP1 hD1 hS1
        refine lv_pop hx hb dX1_makeWayForNewJar_107 rfl ?_
        have hn39 : Num rc bo (L1, L2, L3, L4.dropLast) := by simp only [Num, List.length_dropLast]; omega
        refine lv_aload_n hx hb dX1_makeWayForNewJar_108 rfl (lv_at hl 2 rfl) ?_
        refine lv_iconst (v := (nI 0)) hx hb dX1_makeWayForNewJar_109 (by decide +kernel) ?_
        have hPc := hP.sub (ws' := [(sh, .inr (1, [.ref r1, .ref r2, .ref r3, .ref r4, .int (nI rc), .int (nI bo), .int lv])), (r1, .inr (0, [.ref j1, .int (nI L1.length)])), (j1, .inl (cI, 30, .inl f1)), (r2, .inr (0, [.ref j2, .int (nI L2.length)])), (j2, .inl (cI, 30, .inl f2)), (r3, .inr (0, [.ref j3, .int (nI L3.length)])), (j3, .inl (cI, 30, .inl f3)), (r4, .inr (0, [.ref j4, .int (nI L4.dropLast.length)])), (j4, .inl (cI, 30, .inl f34))]) [0, 1, 2, 5, 6, 3, 4, 7, 8] rfl
        have hDc := hD.sub (ws' := [(sh, .inr (1, [.ref r1, .ref r2, .ref r3, .ref r4, .int (nI rc), .int (nI bo), .int lv])), (r1, .inr (0, [.ref j1, .int (nI L1.length)])), (j1, .inl (cI, 30, .inl f1)), (r2, .inr (0, [.ref j2, .int (nI L2.length)])), (j2, .inl (cI, 30, .inl f2)), (r3, .inr (0, [.ref j3, .int (nI L3.length)])), (j3, .inl (cI, 30, .inl f3)), (r4, .inr (0, [.ref j4, .int (nI L4.dropLast.length)])), (j4, .inl (cI, 30, .inl f34))]) [0, 1, 2, 5, 6, 3, 4, 7, 8] (by decide) rfl
        have hKc := hK.sub (tys' := [(cI, .int)]) [0] rfl
        have hFc := va_free (wc := [(sh, .inr (1, [.ref r1, .ref r2, .ref r3, .ref r4, .int (nI rc), .int (nI bo), .int lv])), (r1, .inr (0, [.ref j1, .int (nI L1.length)])), (j1, .inl (cI, 30, .inl f1)), (r2, .inr (0, [.ref j2, .int (nI L2.length)])), (j2, .inl (cI, 30, .inl f2)), (r3, .inr (0, [.ref j3, .int (nI L3.length)])), (j3, .inl (cI, 30, .inl f3)), (r4, .inr (0, [.ref j4, .int (nI L4.dropLast.length)])), (j4, .inl (cI, 30, .inl f34))]) hD hS hA [0, 1, 2, 5, 6, 3, 4, 7, 8] rfl
        refine va_callv (va_runV (As := [.int (nI 0)]) (rest := []) ⟨hx, hb, hml, hown, hts⟩ (c_X1_makeRoom l G cI sh r1 r2 r3 r4 j1 j2 j3 j4 f1 f2 f3 f34 L1 L2 L3 L4.dropLast rc bo lv hR1 hR2 hR3 hf35 hn39 ⟨hj1, hj2, hj3, ok_drop hj4⟩ false H36.size) (cwV 1 hts gX1_makeWayForNewJar_X1_makeRoom rfl rfl rfl (by decide +kernel) ⟨Nat.le_of_ble_eq_true rfl, Nat.le_of_ble_eq_true rfl⟩) (g_preV (As := [.int (nI 0)]) hPc hKc hDc 0 rfl rfl) rfl rfl hl.1 rfl (lv_room (Nat.le_of_ble_eq_true rfl)) dX1_makeWayForNewJar_110 ⟨(Nat.le_of_ble_eq_true rfl), (Nat.le_of_ble_eq_true rfl)⟩) hS (fun q _ h => hFc q h) hFc (fun u56 t H54 locs ht hvm hw hB hz1 hk1 hS1 => ?_)
        obtain ⟨⟨M40, M41, M42, M43⟩, x52⟩ := u56
        obtain ⟨f44, f45, f46, f47, hf48, hf49, hf50, hf51, hB⟩ := hB
        have hf48 : Rw f44 M40 := hf48
        have hf49 : Rw f45 M41 := hf49
        have hf50 : Rw f46 M42 := hf50
        have hf51 : Rw f47 M43 := hf51
        have hq53 : (M40, M41, M42, M43) = sRoom rc bo false (L1, L2, L3, L4.dropLast) := congrArg Prod.fst hw
        have hx53 : x52 = sRoomX rc bo false (L1, L2, L3, L4.dropLast) lv := congrArg Prod.snd hw
        have a53 := room_lt (ff := false) hn39
        rw [← hq53] at a53
        have b53 := room_sum (ff := false) hn39
        rw [← hq53] at b53
        dsimp only at a53 b53
        obtain ⟨b531, b532, b533, b534⟩ := b53
        obtain ⟨hP1, hD1⟩ := g_join (wc := [(sh, .inr (1, [.ref r1, .ref r2, .ref r3, .ref r4, .int (nI rc), .int (nI bo), .int lv])), (r1, .inr (0, [.ref j1, .int (nI L1.length)])), (j1, .inl (cI, 30, .inl f1)), (r2, .inr (0, [.ref j2, .int (nI L2.length)])), (j2, .inl (cI, 30, .inl f2)), (r3, .inr (0, [.ref j3, .int (nI L3.length)])), (j3, .inl (cI, 30, .inl f3)), (r4, .inr (0, [.ref j4, .int (nI L4.dropLast.length)])), (j4, .inl (cI, 30, .inl f34))]) (wr := []) (w1 := [(sh, .inr (1, [.ref r1, .ref r2, .ref r3, .ref r4, .int (nI rc), .int (nI bo), .int x52])), (r1, .inr (0, [.ref j1, .int (nI M40.length)])), (j1, .inl (cI, 30, .inl f44)), (r2, .inr (0, [.ref j2, .int (nI M41.length)])), (j2, .inl (cI, 30, .inl f45)), (r3, .inr (0, [.ref j3, .int (nI M42.length)])), (j3, .inl (cI, 30, .inl f46)), (r4, .inr (0, [.ref j4, .int (nI M43.length)])), (j4, .inl (cI, 30, .inl f47))]) hP hD [0, 1, 2, 5, 6, 3, 4, 7, 8] [] rfl rfl (by decide) (by decide) ht hk1 hFc hB
        clear hB hk1 hz1 hvm ht hPc hDc hKc hFc
        clear hP hD hS
        have hP : va_P G vwCl [(sh, .inr (1, [.ref r1, .ref r2, .ref r3, .ref r4, .int (nI rc), .int (nI bo), .int x52])), (r1, .inr (0, [.ref j1, .int (nI M40.length)])), (j1, .inl (cI, 30, .inl f44)), (r2, .inr (0, [.ref j2, .int (nI M41.length)])), (j2, .inl (cI, 30, .inl f45)), (r3, .inr (0, [.ref j3, .int (nI M42.length)])), (j3, .inl (cI, 30, .inl f46)), (r4, .inr (0, [.ref j4, .int (nI M43.length)])), (j4, .inl (cI, 30, .inl f47))] H54 := hP1
        have hD : va_D A [(sh, .inr (1, [.ref r1, .ref r2, .ref r3, .ref r4, .int (nI rc), .int (nI bo), .int x52])), (r1, .inr (0, [.ref j1, .int (nI M40.length)])), (j1, .inl (cI, 30, .inl f44)), (r2, .inr (0, [.ref j2, .int (nI M41.length)])), (j2, .inl (cI, 30, .inl f45)), (r3, .inr (0, [.ref j3, .int (nI M42.length)])), (j3, .inl (cI, 30, .inl f46)), (r4, .inr (0, [.ref j4, .int (nI M43.length)])), (j4, .inl (cI, 30, .inl f47))] := hD1
        have hS := hS1
        clear hP1 hD1 hS1
        have hP9 := hP.sub (ws' := [(sh, .inr (1, [.ref r1, .ref r2, .ref r3, .ref r4, .int (nI rc), .int (nI bo), .int x52])), (r1, .inr (0, [.ref j1, .int (nI M40.length)])), (j1, .inl (cI, 30, .inl f44)), (r2, .inr (0, [.ref j2, .int (nI M41.length)])), (j2, .inl (cI, 30, .inl f45)), (r3, .inr (0, [.ref j3, .int (nI M42.length)])), (j3, .inl (cI, 30, .inl f46)), (r4, .inr (0, [.ref j4, .int (nI M43.length)])), (j4, .inl (cI, 30, .inl f47))]) [0, 1, 2, 3, 4, 5, 6, 7, 8] rfl
        have hD9 := hD.sub (ws' := [(sh, .inr (1, [.ref r1, .ref r2, .ref r3, .ref r4, .int (nI rc), .int (nI bo), .int x52])), (r1, .inr (0, [.ref j1, .int (nI M40.length)])), (j1, .inl (cI, 30, .inl f44)), (r2, .inr (0, [.ref j2, .int (nI M41.length)])), (j2, .inl (cI, 30, .inl f45)), (r3, .inr (0, [.ref j3, .int (nI M42.length)])), (j3, .inl (cI, 30, .inl f46)), (r4, .inr (0, [.ref j4, .int (nI M43.length)])), (j4, .inl (cI, 30, .inl f47))]) [0, 1, 2, 3, 4, 5, 6, 7, 8] (by decide) rfl
        exact W.vret hx hb hr (fun t ht hW => ⟨⟨((M40, M41, M42, M43), x52), rfl, (new_c (by omega) (by omega) (by rw [hq53, hx53])), _, _, _, _, hf48, hf49, hf50, hf51, g_at hP9 hK hD9 ht hW⟩, hS.F ht⟩) hS.2.2 dX1_makeWayForNewJar_113
  · refine lv_aload_n hx hb dX1_makeWayForNewJar_42 rfl (lv_at hl 2 rfl) ?_
    refine va_get (D := G) (ci := 1) (v := .ref r3) (C := RX1) (T := TX1) (N := 7) hx hb hts iX1_makeWayForNewJar_X1 hown hK hP 0 rfl rfl 2 (by decide) (hts (.fieldLink RX1 23 "GhostPantry$Shelves" "recentGhosts" "LGhostPantry$Row;") (by decide +kernel)) (fun _ h9 => h9) rfl dX1_makeWayForNewJar_43 ?_
    have hPc := hP.sub (ws' := [(r3, .inr (0, [.ref j3, .int (nI L3.length)])), (j3, .inl (cI, 30, .inl f3))]) [3, 4] rfl
    have hDc := hD.sub (ws' := [(r3, .inr (0, [.ref j3, .int (nI L3.length)])), (j3, .inl (cI, 30, .inl f3))]) [3, 4] (by decide) rfl
    have hKc := hK.sub (tys' := [(cI, .int)]) [0] rfl
    have hFc := va_free (wc := [(r3, .inr (0, [.ref j3, .int (nI L3.length)])), (j3, .inl (cI, 30, .inl f3))]) hD hS hA [3, 4] rfl
    refine va_calli (va_runV (As := []) (rest := []) ⟨hx, hb, hml, hown, hts⟩ (c_X0_length l G cI r3 j3 f3 L3 hR3 (by omega)  H10.size) (cwV 0 hts gX1_makeWayForNewJar_X0_length rfl rfl rfl (by decide +kernel) ⟨Nat.le_of_ble_eq_true rfl, Nat.le_of_ble_eq_true rfl⟩) (g_preV (As := []) hPc hKc hDc 0 rfl rfl) rfl rfl hl.1 rfl (lv_room (Nat.le_of_ble_eq_true rfl)) dX1_makeWayForNewJar_46 ⟨(Nat.le_of_ble_eq_true rfl), (Nat.le_of_ble_eq_true rfl)⟩) hS (fun q _ h => hFc q h) hFc (fun r58 u59 t H57 locs ht hvm hw hB hz1 hk1 hS1 => ?_)
    subst hw
    obtain ⟨hP1, hD1⟩ := g_join (wc := [(r3, .inr (0, [.ref j3, .int (nI L3.length)])), (j3, .inl (cI, 30, .inl f3))]) (wr := [(sh, .inr (1, [.ref r1, .ref r2, .ref r3, .ref r4, .int (nI rc), .int (nI bo), .int lv])), (r1, .inr (0, [.ref j1, .int (nI L1.length)])), (j1, .inl (cI, 30, .inl f1)), (r2, .inr (0, [.ref j2, .int (nI L2.length)])), (j2, .inl (cI, 30, .inl f2)), (r4, .inr (0, [.ref j4, .int (nI L4.length)])), (j4, .inl (cI, 30, .inl f4))]) (w1 := [(r3, .inr (0, [.ref j3, .int (nI L3.length)])), (j3, .inl (cI, 30, .inl f3))]) hP hD [3, 4] [0, 1, 2, 5, 6, 7, 8] rfl rfl (by decide) (by decide) ht hk1 hFc hB
    clear hB hk1 hz1 hvm ht hPc hDc hKc hFc
    clear hP hD hS
    have hP : va_P G vwCl [(sh, .inr (1, [.ref r1, .ref r2, .ref r3, .ref r4, .int (nI rc), .int (nI bo), .int lv])), (r1, .inr (0, [.ref j1, .int (nI L1.length)])), (j1, .inl (cI, 30, .inl f1)), (r2, .inr (0, [.ref j2, .int (nI L2.length)])), (j2, .inl (cI, 30, .inl f2)), (r4, .inr (0, [.ref j4, .int (nI L4.length)])), (j4, .inl (cI, 30, .inl f4)), (r3, .inr (0, [.ref j3, .int (nI L3.length)])), (j3, .inl (cI, 30, .inl f3))] H57 := hP1
    have hD : va_D A [(sh, .inr (1, [.ref r1, .ref r2, .ref r3, .ref r4, .int (nI rc), .int (nI bo), .int lv])), (r1, .inr (0, [.ref j1, .int (nI L1.length)])), (j1, .inl (cI, 30, .inl f1)), (r2, .inr (0, [.ref j2, .int (nI L2.length)])), (j2, .inl (cI, 30, .inl f2)), (r4, .inr (0, [.ref j4, .int (nI L4.length)])), (j4, .inl (cI, 30, .inl f4)), (r3, .inr (0, [.ref j3, .int (nI L3.length)])), (j3, .inl (cI, 30, .inl f3))] := hD1
    have hS := hS1
    clear hP1 hD1 hS1
    refine g_if_le (tgt := 68) hx hb dX1_makeWayForNewJar_49 (by decide) (by omega) (fun c60 => ?_) (fun c60 => ?_)
    · refine lv_aload_n hx hb dX1_makeWayForNewJar_68 rfl (lv_at hl 2 rfl) ?_
      refine lv_aload_n hx hb dX1_makeWayForNewJar_69 rfl (lv_at hl 2 rfl) ?_
      refine va_get (D := G) (ci := 1) (v := .ref r1) (C := RX1) (T := TX1) (N := 7) hx hb hts iX1_makeWayForNewJar_X1 hown hK hP 0 rfl rfl 0 (by decide) (hts (.fieldLink RX1 14 "GhostPantry$Shelves" "recent" "LGhostPantry$Row;") (by decide +kernel)) (fun _ h9 => h9) rfl dX1_makeWayForNewJar_70 ?_
      have hPc := hP.sub (ws' := [(r1, .inr (0, [.ref j1, .int (nI L1.length)])), (j1, .inl (cI, 30, .inl f1))]) [1, 2] rfl
      have hDc := hD.sub (ws' := [(r1, .inr (0, [.ref j1, .int (nI L1.length)])), (j1, .inl (cI, 30, .inl f1))]) [1, 2] (by decide) rfl
      have hKc := hK.sub (tys' := [(cI, .int)]) [0] rfl
      have hFc := va_free (wc := [(r1, .inr (0, [.ref j1, .int (nI L1.length)])), (j1, .inl (cI, 30, .inl f1))]) hD hS hA [1, 2] rfl
      refine va_calli (va_runV (As := []) (rest := [.ref sh]) ⟨hx, hb, hml, hown, hts⟩ (c_X0_takeLast l G cI r1 j1 f1 L1 hR1 (by omega) (by omega) H57.size) (cwV 0 hts gX1_makeWayForNewJar_X0_takeLast rfl rfl rfl (by decide +kernel) ⟨Nat.le_of_ble_eq_true rfl, Nat.le_of_ble_eq_true rfl⟩) (g_preV (As := []) hPc hKc hDc 0 rfl rfl) rfl rfl hl.1 rfl (lv_room (Nat.le_of_ble_eq_true rfl)) dX1_makeWayForNewJar_73 ⟨(Nat.le_of_ble_eq_true rfl), (Nat.le_of_ble_eq_true rfl)⟩) hS (fun q _ h => hFc q h) hFc (fun r64 u65 t H63 locs ht hvm hw hB hz1 hk1 hS1 => ?_)
      subst hw
      obtain ⟨f61, hf62, hB⟩ := hB
      obtain ⟨hP1, hD1⟩ := g_join (wc := [(r1, .inr (0, [.ref j1, .int (nI L1.length)])), (j1, .inl (cI, 30, .inl f1))]) (wr := [(sh, .inr (1, [.ref r1, .ref r2, .ref r3, .ref r4, .int (nI rc), .int (nI bo), .int lv])), (r2, .inr (0, [.ref j2, .int (nI L2.length)])), (j2, .inl (cI, 30, .inl f2)), (r4, .inr (0, [.ref j4, .int (nI L4.length)])), (j4, .inl (cI, 30, .inl f4)), (r3, .inr (0, [.ref j3, .int (nI L3.length)])), (j3, .inl (cI, 30, .inl f3))]) (w1 := [(r1, .inr (0, [.ref j1, .int (nI L1.dropLast.length)])), (j1, .inl (cI, 30, .inl f61))]) hP hD [1, 2] [0, 3, 4, 5, 6, 7, 8] rfl rfl (by decide) (by decide) ht hk1 hFc hB
      clear hB hk1 hz1 hvm ht hPc hDc hKc hFc
      clear hP hD hS
      have hP : va_P G vwCl [(sh, .inr (1, [.ref r1, .ref r2, .ref r3, .ref r4, .int (nI rc), .int (nI bo), .int lv])), (r2, .inr (0, [.ref j2, .int (nI L2.length)])), (j2, .inl (cI, 30, .inl f2)), (r4, .inr (0, [.ref j4, .int (nI L4.length)])), (j4, .inl (cI, 30, .inl f4)), (r3, .inr (0, [.ref j3, .int (nI L3.length)])), (j3, .inl (cI, 30, .inl f3)), (r1, .inr (0, [.ref j1, .int (nI L1.dropLast.length)])), (j1, .inl (cI, 30, .inl f61))] H63 := hP1
      have hD : va_D A [(sh, .inr (1, [.ref r1, .ref r2, .ref r3, .ref r4, .int (nI rc), .int (nI bo), .int lv])), (r2, .inr (0, [.ref j2, .int (nI L2.length)])), (j2, .inl (cI, 30, .inl f2)), (r4, .inr (0, [.ref j4, .int (nI L4.length)])), (j4, .inl (cI, 30, .inl f4)), (r3, .inr (0, [.ref j3, .int (nI L3.length)])), (j3, .inl (cI, 30, .inl f3)), (r1, .inr (0, [.ref j1, .int (nI L1.dropLast.length)])), (j1, .inl (cI, 30, .inl f61))] := hD1
      have hS := hS1
      clear hP1 hD1 hS1
      refine va_put (D := G) (ci := 1) (v := .int (lst L1)) (ty := .int) (C := RX1) (T := TX1) (N := 7) hx hb hts iX1_makeWayForNewJar_X1 tyX1 tyX1_ok nmX1 hown hK hP hD hS 0 rfl rfl 6 (by decide) (hts (.fieldLink RX1 36 "GhostPantry$Shelves" "leaver" "I") (by decide +kernel)) (fun _ h9 => h9) rfl (by decide +kernel) rfl rfl (Nat.le_of_ble_eq_true rfl) dX1_makeWayForNewJar_76 (fun H66 locs hP1 hD1 hS1 => ?_)
      clear hP hD hS
      have hP : va_P G vwCl [(sh, .inr (1, [.ref r1, .ref r2, .ref r3, .ref r4, .int (nI rc), .int (nI bo), .int (lst L1)])), (r2, .inr (0, [.ref j2, .int (nI L2.length)])), (j2, .inl (cI, 30, .inl f2)), (r4, .inr (0, [.ref j4, .int (nI L4.length)])), (j4, .inl (cI, 30, .inl f4)), (r3, .inr (0, [.ref j3, .int (nI L3.length)])), (j3, .inl (cI, 30, .inl f3)), (r1, .inr (0, [.ref j1, .int (nI L1.dropLast.length)])), (j1, .inl (cI, 30, .inl f61))] H66 := hP1
      have hD : va_D A [(sh, .inr (1, [.ref r1, .ref r2, .ref r3, .ref r4, .int (nI rc), .int (nI bo), .int (lst L1)])), (r2, .inr (0, [.ref j2, .int (nI L2.length)])), (j2, .inl (cI, 30, .inl f2)), (r4, .inr (0, [.ref j4, .int (nI L4.length)])), (j4, .inl (cI, 30, .inl f4)), (r3, .inr (0, [.ref j3, .int (nI L3.length)])), (j3, .inl (cI, 30, .inl f3)), (r1, .inr (0, [.ref j1, .int (nI L1.dropLast.length)])), (j1, .inl (cI, 30, .inl f61))] := hD1
      have hS := hS1
      clear hP1 hD1 hS1
      refine lv_goto (tgt := 113) hx hb dX1_makeWayForNewJar_79 (by decide) ?_
      have hP9 := hP.sub (ws' := [(sh, .inr (1, [.ref r1, .ref r2, .ref r3, .ref r4, .int (nI rc), .int (nI bo), .int (lst L1)])), (r1, .inr (0, [.ref j1, .int (nI L1.dropLast.length)])), (j1, .inl (cI, 30, .inl f61)), (r2, .inr (0, [.ref j2, .int (nI L2.length)])), (j2, .inl (cI, 30, .inl f2)), (r3, .inr (0, [.ref j3, .int (nI L3.length)])), (j3, .inl (cI, 30, .inl f3)), (r4, .inr (0, [.ref j4, .int (nI L4.length)])), (j4, .inl (cI, 30, .inl f4))]) [0, 7, 8, 1, 2, 5, 6, 3, 4] rfl
      have hD9 := hD.sub (ws' := [(sh, .inr (1, [.ref r1, .ref r2, .ref r3, .ref r4, .int (nI rc), .int (nI bo), .int (lst L1)])), (r1, .inr (0, [.ref j1, .int (nI L1.dropLast.length)])), (j1, .inl (cI, 30, .inl f61)), (r2, .inr (0, [.ref j2, .int (nI L2.length)])), (j2, .inl (cI, 30, .inl f2)), (r3, .inr (0, [.ref j3, .int (nI L3.length)])), (j3, .inl (cI, 30, .inl f3)), (r4, .inr (0, [.ref j4, .int (nI L4.length)])), (j4, .inl (cI, 30, .inl f4))]) [0, 7, 8, 1, 2, 5, 6, 3, 4] (by decide) rfl
      exact W.vret hx hb hr (fun t ht hW => ⟨⟨((L1.dropLast, L2, L3, L4), (lst L1)), rfl, (new_b (by omega) (by omega)), _, _, _, _, hf62, hR2, hR3, hR4, g_at hP9 hK hD9 ht hW⟩, hS.F ht⟩) hS.2.2 dX1_makeWayForNewJar_113
    · refine lv_aload_n hx hb dX1_makeWayForNewJar_52 rfl (lv_at hl 2 rfl) ?_
      refine va_get (D := G) (ci := 1) (v := .ref r3) (C := RX1) (T := TX1) (N := 7) hx hb hts iX1_makeWayForNewJar_X1 hown hK hP 0 rfl rfl 2 (by decide) (hts (.fieldLink RX1 23 "GhostPantry$Shelves" "recentGhosts" "LGhostPantry$Row;") (by decide +kernel)) (fun _ h9 => h9) rfl dX1_makeWayForNewJar_53 ?_
      have hPc := hP.sub (ws' := [(r3, .inr (0, [.ref j3, .int (nI L3.length)])), (j3, .inl (cI, 30, .inl f3))]) [7, 8] rfl
      have hDc := hD.sub (ws' := [(r3, .inr (0, [.ref j3, .int (nI L3.length)])), (j3, .inl (cI, 30, .inl f3))]) [7, 8] (by decide) rfl
      have hKc := hK.sub (tys' := [(cI, .int)]) [0] rfl
      have hFc := va_free (wc := [(r3, .inr (0, [.ref j3, .int (nI L3.length)])), (j3, .inl (cI, 30, .inl f3))]) hD hS hA [7, 8] rfl
      refine va_calli (va_runV (As := []) (rest := []) ⟨hx, hb, hml, hown, hts⟩ (c_X0_takeLast l G cI r3 j3 f3 L3 hR3 (by omega) (by omega) H57.size) (cwV 0 hts gX1_makeWayForNewJar_X0_takeLast rfl rfl rfl (by decide +kernel) ⟨Nat.le_of_ble_eq_true rfl, Nat.le_of_ble_eq_true rfl⟩) (g_preV (As := []) hPc hKc hDc 0 rfl rfl) rfl rfl hl.1 rfl (lv_room (Nat.le_of_ble_eq_true rfl)) dX1_makeWayForNewJar_56 ⟨(Nat.le_of_ble_eq_true rfl), (Nat.le_of_ble_eq_true rfl)⟩) hS (fun q _ h => hFc q h) hFc (fun r70 u71 t H69 locs ht hvm hw hB hz1 hk1 hS1 => ?_)
      subst hw
      obtain ⟨f67, hf68, hB⟩ := hB
      obtain ⟨hP1, hD1⟩ := g_join (wc := [(r3, .inr (0, [.ref j3, .int (nI L3.length)])), (j3, .inl (cI, 30, .inl f3))]) (wr := [(sh, .inr (1, [.ref r1, .ref r2, .ref r3, .ref r4, .int (nI rc), .int (nI bo), .int lv])), (r1, .inr (0, [.ref j1, .int (nI L1.length)])), (j1, .inl (cI, 30, .inl f1)), (r2, .inr (0, [.ref j2, .int (nI L2.length)])), (j2, .inl (cI, 30, .inl f2)), (r4, .inr (0, [.ref j4, .int (nI L4.length)])), (j4, .inl (cI, 30, .inl f4))]) (w1 := [(r3, .inr (0, [.ref j3, .int (nI L3.dropLast.length)])), (j3, .inl (cI, 30, .inl f67))]) hP hD [7, 8] [0, 1, 2, 3, 4, 5, 6] rfl rfl (by decide) (by decide) ht hk1 hFc hB
      clear hB hk1 hz1 hvm ht hPc hDc hKc hFc
      clear hP hD hS
      have hP : va_P G vwCl [(sh, .inr (1, [.ref r1, .ref r2, .ref r3, .ref r4, .int (nI rc), .int (nI bo), .int lv])), (r1, .inr (0, [.ref j1, .int (nI L1.length)])), (j1, .inl (cI, 30, .inl f1)), (r2, .inr (0, [.ref j2, .int (nI L2.length)])), (j2, .inl (cI, 30, .inl f2)), (r4, .inr (0, [.ref j4, .int (nI L4.length)])), (j4, .inl (cI, 30, .inl f4)), (r3, .inr (0, [.ref j3, .int (nI L3.dropLast.length)])), (j3, .inl (cI, 30, .inl f67))] H69 := hP1
      have hD : va_D A [(sh, .inr (1, [.ref r1, .ref r2, .ref r3, .ref r4, .int (nI rc), .int (nI bo), .int lv])), (r1, .inr (0, [.ref j1, .int (nI L1.length)])), (j1, .inl (cI, 30, .inl f1)), (r2, .inr (0, [.ref j2, .int (nI L2.length)])), (j2, .inl (cI, 30, .inl f2)), (r4, .inr (0, [.ref j4, .int (nI L4.length)])), (j4, .inl (cI, 30, .inl f4)), (r3, .inr (0, [.ref j3, .int (nI L3.dropLast.length)])), (j3, .inl (cI, 30, .inl f67))] := hD1
      have hS := hS1
      clear hP1 hD1 hS1
      refine lv_pop hx hb dX1_makeWayForNewJar_59 rfl ?_
      have hn72 : Num rc bo (L1, L2, L3.dropLast, L4) := by simp only [Num, List.length_dropLast]; omega
      refine lv_aload_n hx hb dX1_makeWayForNewJar_60 rfl (lv_at hl 2 rfl) ?_
      refine lv_iconst (v := (nI 0)) hx hb dX1_makeWayForNewJar_61 (by decide +kernel) ?_
      have hPc := hP.sub (ws' := [(sh, .inr (1, [.ref r1, .ref r2, .ref r3, .ref r4, .int (nI rc), .int (nI bo), .int lv])), (r1, .inr (0, [.ref j1, .int (nI L1.length)])), (j1, .inl (cI, 30, .inl f1)), (r2, .inr (0, [.ref j2, .int (nI L2.length)])), (j2, .inl (cI, 30, .inl f2)), (r3, .inr (0, [.ref j3, .int (nI L3.dropLast.length)])), (j3, .inl (cI, 30, .inl f67)), (r4, .inr (0, [.ref j4, .int (nI L4.length)])), (j4, .inl (cI, 30, .inl f4))]) [0, 1, 2, 3, 4, 7, 8, 5, 6] rfl
      have hDc := hD.sub (ws' := [(sh, .inr (1, [.ref r1, .ref r2, .ref r3, .ref r4, .int (nI rc), .int (nI bo), .int lv])), (r1, .inr (0, [.ref j1, .int (nI L1.length)])), (j1, .inl (cI, 30, .inl f1)), (r2, .inr (0, [.ref j2, .int (nI L2.length)])), (j2, .inl (cI, 30, .inl f2)), (r3, .inr (0, [.ref j3, .int (nI L3.dropLast.length)])), (j3, .inl (cI, 30, .inl f67)), (r4, .inr (0, [.ref j4, .int (nI L4.length)])), (j4, .inl (cI, 30, .inl f4))]) [0, 1, 2, 3, 4, 7, 8, 5, 6] (by decide) rfl
      have hKc := hK.sub (tys' := [(cI, .int)]) [0] rfl
      have hFc := va_free (wc := [(sh, .inr (1, [.ref r1, .ref r2, .ref r3, .ref r4, .int (nI rc), .int (nI bo), .int lv])), (r1, .inr (0, [.ref j1, .int (nI L1.length)])), (j1, .inl (cI, 30, .inl f1)), (r2, .inr (0, [.ref j2, .int (nI L2.length)])), (j2, .inl (cI, 30, .inl f2)), (r3, .inr (0, [.ref j3, .int (nI L3.dropLast.length)])), (j3, .inl (cI, 30, .inl f67)), (r4, .inr (0, [.ref j4, .int (nI L4.length)])), (j4, .inl (cI, 30, .inl f4))]) hD hS hA [0, 1, 2, 3, 4, 7, 8, 5, 6] rfl
      refine va_callv (va_runV (As := [.int (nI 0)]) (rest := []) ⟨hx, hb, hml, hown, hts⟩ (c_X1_makeRoom l G cI sh r1 r2 r3 r4 j1 j2 j3 j4 f1 f2 f67 f4 L1 L2 L3.dropLast L4 rc bo lv hR1 hR2 hf68 hR4 hn72 ⟨hj1, hj2, ok_drop hj3, hj4⟩ false H69.size) (cwV 1 hts gX1_makeWayForNewJar_X1_makeRoom rfl rfl rfl (by decide +kernel) ⟨Nat.le_of_ble_eq_true rfl, Nat.le_of_ble_eq_true rfl⟩) (g_preV (As := [.int (nI 0)]) hPc hKc hDc 0 rfl rfl) rfl rfl hl.1 rfl (lv_room (Nat.le_of_ble_eq_true rfl)) dX1_makeWayForNewJar_62 ⟨(Nat.le_of_ble_eq_true rfl), (Nat.le_of_ble_eq_true rfl)⟩) hS (fun q _ h => hFc q h) hFc (fun u89 t H87 locs ht hvm hw hB hz1 hk1 hS1 => ?_)
      obtain ⟨⟨M73, M74, M75, M76⟩, x85⟩ := u89
      obtain ⟨f77, f78, f79, f80, hf81, hf82, hf83, hf84, hB⟩ := hB
      have hf81 : Rw f77 M73 := hf81
      have hf82 : Rw f78 M74 := hf82
      have hf83 : Rw f79 M75 := hf83
      have hf84 : Rw f80 M76 := hf84
      have hq86 : (M73, M74, M75, M76) = sRoom rc bo false (L1, L2, L3.dropLast, L4) := congrArg Prod.fst hw
      have hx86 : x85 = sRoomX rc bo false (L1, L2, L3.dropLast, L4) lv := congrArg Prod.snd hw
      have a86 := room_lt (ff := false) hn72
      rw [← hq86] at a86
      have b86 := room_sum (ff := false) hn72
      rw [← hq86] at b86
      dsimp only at a86 b86
      obtain ⟨b861, b862, b863, b864⟩ := b86
      obtain ⟨hP1, hD1⟩ := g_join (wc := [(sh, .inr (1, [.ref r1, .ref r2, .ref r3, .ref r4, .int (nI rc), .int (nI bo), .int lv])), (r1, .inr (0, [.ref j1, .int (nI L1.length)])), (j1, .inl (cI, 30, .inl f1)), (r2, .inr (0, [.ref j2, .int (nI L2.length)])), (j2, .inl (cI, 30, .inl f2)), (r3, .inr (0, [.ref j3, .int (nI L3.dropLast.length)])), (j3, .inl (cI, 30, .inl f67)), (r4, .inr (0, [.ref j4, .int (nI L4.length)])), (j4, .inl (cI, 30, .inl f4))]) (wr := []) (w1 := [(sh, .inr (1, [.ref r1, .ref r2, .ref r3, .ref r4, .int (nI rc), .int (nI bo), .int x85])), (r1, .inr (0, [.ref j1, .int (nI M73.length)])), (j1, .inl (cI, 30, .inl f77)), (r2, .inr (0, [.ref j2, .int (nI M74.length)])), (j2, .inl (cI, 30, .inl f78)), (r3, .inr (0, [.ref j3, .int (nI M75.length)])), (j3, .inl (cI, 30, .inl f79)), (r4, .inr (0, [.ref j4, .int (nI M76.length)])), (j4, .inl (cI, 30, .inl f80))]) hP hD [0, 1, 2, 3, 4, 7, 8, 5, 6] [] rfl rfl (by decide) (by decide) ht hk1 hFc hB
      clear hB hk1 hz1 hvm ht hPc hDc hKc hFc
      clear hP hD hS
      have hP : va_P G vwCl [(sh, .inr (1, [.ref r1, .ref r2, .ref r3, .ref r4, .int (nI rc), .int (nI bo), .int x85])), (r1, .inr (0, [.ref j1, .int (nI M73.length)])), (j1, .inl (cI, 30, .inl f77)), (r2, .inr (0, [.ref j2, .int (nI M74.length)])), (j2, .inl (cI, 30, .inl f78)), (r3, .inr (0, [.ref j3, .int (nI M75.length)])), (j3, .inl (cI, 30, .inl f79)), (r4, .inr (0, [.ref j4, .int (nI M76.length)])), (j4, .inl (cI, 30, .inl f80))] H87 := hP1
      have hD : va_D A [(sh, .inr (1, [.ref r1, .ref r2, .ref r3, .ref r4, .int (nI rc), .int (nI bo), .int x85])), (r1, .inr (0, [.ref j1, .int (nI M73.length)])), (j1, .inl (cI, 30, .inl f77)), (r2, .inr (0, [.ref j2, .int (nI M74.length)])), (j2, .inl (cI, 30, .inl f78)), (r3, .inr (0, [.ref j3, .int (nI M75.length)])), (j3, .inl (cI, 30, .inl f79)), (r4, .inr (0, [.ref j4, .int (nI M76.length)])), (j4, .inl (cI, 30, .inl f80))] := hD1
      have hS := hS1
      clear hP1 hD1 hS1
      refine lv_goto (tgt := 113) hx hb dX1_makeWayForNewJar_65 (by decide) ?_
      have hP9 := hP.sub (ws' := [(sh, .inr (1, [.ref r1, .ref r2, .ref r3, .ref r4, .int (nI rc), .int (nI bo), .int x85])), (r1, .inr (0, [.ref j1, .int (nI M73.length)])), (j1, .inl (cI, 30, .inl f77)), (r2, .inr (0, [.ref j2, .int (nI M74.length)])), (j2, .inl (cI, 30, .inl f78)), (r3, .inr (0, [.ref j3, .int (nI M75.length)])), (j3, .inl (cI, 30, .inl f79)), (r4, .inr (0, [.ref j4, .int (nI M76.length)])), (j4, .inl (cI, 30, .inl f80))]) [0, 1, 2, 3, 4, 5, 6, 7, 8] rfl
      have hD9 := hD.sub (ws' := [(sh, .inr (1, [.ref r1, .ref r2, .ref r3, .ref r4, .int (nI rc), .int (nI bo), .int x85])), (r1, .inr (0, [.ref j1, .int (nI M73.length)])), (j1, .inl (cI, 30, .inl f77)), (r2, .inr (0, [.ref j2, .int (nI M74.length)])), (j2, .inl (cI, 30, .inl f78)), (r3, .inr (0, [.ref j3, .int (nI M75.length)])), (j3, .inl (cI, 30, .inl f79)), (r4, .inr (0, [.ref j4, .int (nI M76.length)])), (j4, .inl (cI, 30, .inl f80))]) [0, 1, 2, 3, 4, 5, 6, 7, 8] (by decide) rfl
      exact W.vret hx hb hr (fun t ht hW => ⟨⟨((M73, M74, M75, M76), x85), rfl, (new_a (by omega) (by omega) (by rw [hq86, hx86])), _, _, _, _, hf81, hf82, hf83, hf84, g_at hP9 hK hD9 ht hW⟩, hS.F ht⟩) hS.2.2 dX1_makeWayForNewJar_113

set_option maxRecDepth 20000 in
theorem iX1_serve_X1 : ∀ w ∈ wsX10, w ∈ wsX1_serve := by decide +kernel
set_option maxHeartbeats 4000000 in
set_option maxRecDepth 100000 in
theorem c_X1_serve (l : Launch) (G : va_G) (cI : ClassId) (sh r1 r2 r3 r4 j1 j2 j3 j4 : Nat) (f1 f2 f3 f4 : Nat → Int32) (L1 L2 L3 L4 : List Int32) (rc bo : Nat) (lv : Int32) (hR1 : Rw f1 L1) (hR2 : Rw f2 L2) (hR3 : Rw f3 L3) (hR4 : Rw f4 L4) (hn : Num rc bo (L1, L2, L3, L4)) (hj : Jrs (L1, L2, L3, L4)) (jar : Int32) (hk : jarOk jar) (sz : Nat) : Met l yX1_serve wsX1_serve ({ frames := 4, cells := 0, slots := 0, locals := 87 }) (va_Pc [.ref sh, .int jar] (gpre G [(cI, .int)] [(sh, .inr (1, [.ref r1, .ref r2, .ref r3, .ref r4, .int (nI rc), .int (nI bo), .int lv])), (r1, .inr (0, [.ref j1, .int (nI L1.length)])), (j1, .inl (cI, 30, .inl f1)), (r2, .inr (0, [.ref j2, .int (nI L2.length)])), (j2, .inl (cI, 30, .inl f2)), (r3, .inr (0, [.ref j3, .int (nI L3.length)])), (j3, .inl (cI, 30, .inl f3)), (r4, .inr (0, [.ref j4, .int (nI L4.length)])), (j4, .inl (cI, 30, .inl f4))] sz)) (va_Qi (fun (z : Int32) (u : Q4 × Nat × Int32) => z = nI (whr (L1, L2, L3, L4) jar) ∧ u = (sServe rc bo (L1, L2, L3, L4) jar, sBord rc bo (L1, L2, L3, L4) jar, sServeX rc bo (L1, L2, L3, L4) jar)) (fun (u : Q4 × Nat × Int32) t => ∃ f1' f2' f3' f4' : Nat → Int32, Rw f1' u.1.1 ∧ Rw f2' u.1.2.1 ∧ Rw f3' u.1.2.2.1 ∧ Rw f4' u.1.2.2.2 ∧ gat G [(cI, .int)] (va_A [(sh, .inr (1, [.ref r1, .ref r2, .ref r3, .ref r4, .int (nI rc), .int (nI bo), .int lv])), (r1, .inr (0, [.ref j1, .int (nI L1.length)])), (j1, .inl (cI, 30, .inl f1)), (r2, .inr (0, [.ref j2, .int (nI L2.length)])), (j2, .inl (cI, 30, .inl f2)), (r3, .inr (0, [.ref j3, .int (nI L3.length)])), (j3, .inl (cI, 30, .inl f3)), (r4, .inr (0, [.ref j4, .int (nI L4.length)])), (j4, .inl (cI, 30, .inl f4))] sz) [(sh, .inr (1, [.ref r1, .ref r2, .ref r3, .ref r4, .int (nI rc), .int (nI u.2.1), .int u.2.2])), (r1, .inr (0, [.ref j1, .int (nI u.1.1.length)])), (j1, .inl (cI, 30, .inl f1')), (r2, .inr (0, [.ref j2, .int (nI u.1.2.1.length)])), (j2, .inl (cI, 30, .inl f2')), (r3, .inr (0, [.ref j3, .int (nI u.1.2.2.1.length)])), (j3, .inl (cI, 30, .inl f3')), (r4, .inr (0, [.ref j4, .int (nI u.1.2.2.2.length)])), (j4, .inl (cI, 30, .inl f4'))] t) (va_A [(sh, .inr (1, [.ref r1, .ref r2, .ref r3, .ref r4, .int (nI rc), .int (nI bo), .int lv])), (r1, .inr (0, [.ref j1, .int (nI L1.length)])), (j1, .inl (cI, 30, .inl f1)), (r2, .inr (0, [.ref j2, .int (nI L2.length)])), (j2, .inl (cI, 30, .inl f2)), (r3, .inr (0, [.ref j3, .int (nI L3.length)])), (j3, .inl (cI, 30, .inl f3)), (r4, .inr (0, [.ref j4, .int (nI L4.length)])), (j4, .inl (cI, 30, .inl f4))] sz)) 0 0 (va_A [(sh, .inr (1, [.ref r1, .ref r2, .ref r3, .ref r4, .int (nI rc), .int (nI bo), .int lv])), (r1, .inr (0, [.ref j1, .int (nI L1.length)])), (j1, .inl (cI, 30, .inl f1)), (r2, .inr (0, [.ref j2, .int (nI L2.length)])), (j2, .inl (cI, 30, .inl f2)), (r3, .inr (0, [.ref j3, .int (nI L3.length)])), (j3, .inl (cI, 30, .inl f3)), (r4, .inr (0, [.ref j4, .int (nI L4.length)])), (j4, .inl (cI, 30, .inl f4))] sz) := by
  refine Met.ofW (cc := cX1_serve) (maxL := 4) (ret := (some .int)) (by decide) rfl ?_
  intro p e s m args below meth c s₁ B hml hv
  obtain ⟨rfl, hsz, hP, hK, hD0⟩ := hv
  have hx := B.exec
  have hb := B.bytes
  have hr := B.returns
  have hts := atoms_spec (ws := wsX1_serve) B.pre
  have hown : s.vm.findClass RX1 = some m.cls := findClass_of_methodNamed B.named
  have hlocks := B.notSynchronized
  subst hsz
  have hD := hD0.self (sz := s.heap.size)
  clear hD0
  generalize hAe : va_A [(sh, .inr (1, [.ref r1, .ref r2, .ref r3, .ref r4, .int (nI rc), .int (nI bo), .int lv])), (r1, .inr (0, [.ref j1, .int (nI L1.length)])), (j1, .inl (cI, 30, .inl f1)), (r2, .inr (0, [.ref j2, .int (nI L2.length)])), (j2, .inl (cI, 30, .inl f2)), (r3, .inr (0, [.ref j3, .int (nI L3.length)])), (j3, .inl (cI, 30, .inl f3)), (r4, .inr (0, [.ref j4, .int (nI L4.length)])), (j4, .inl (cI, 30, .inl f4))] s.heap.size = A at hD ⊢
  have hA : ∀ q : Nat, s.heap.size ≤ q → A q := fun q h => by rw [← hAe]; exact Or.inr h
  have hS : va_S A s.heap s.heap [] := va_S.rf
  have hP : va_P G vwCl [(sh, .inr (1, [.ref r1, .ref r2, .ref r3, .ref r4, .int (nI rc), .int (nI bo), .int lv])), (r1, .inr (0, [.ref j1, .int (nI L1.length)])), (j1, .inl (cI, 30, .inl f1)), (r2, .inr (0, [.ref j2, .int (nI L2.length)])), (j2, .inl (cI, 30, .inl f2)), (r3, .inr (0, [.ref j3, .int (nI L3.length)])), (j3, .inl (cI, 30, .inl f3)), (r4, .inr (0, [.ref j4, .int (nI L4.length)])), (j4, .inl (cI, 30, .inl f4))] s.heap := hP
  have hl := lv_entry ([.ref sh, .int jar]) (n := 4) (Nat.le_of_ble_eq_true rfl)
  rw [lg_entry_eq]
  generalize (lg_sl ([.ref sh, .int jar]) ++ List.replicate (4 - (lg_sl ([.ref sh, .int jar])).length) Slot.unset).toArray = ls at hl ⊢
  have hl : lv_has ls 4 [(0, .ref sh), (1, .int jar)] := hl
  obtain ⟨hn1, hn2, hn3, hn4, hn5, hn6⟩ : 1 ≤ rc ∧ rc ≤ 12 ∧ bo ≤ rc ∧ L1.length + L2.length ≤ rc ∧ L1.length + L3.length ≤ rc ∧ L1.length + L2.length + L3.length + L4.length ≤ 2 * rc := hn
  obtain ⟨hj1, hj2, hj3, hj4⟩ : allOk L1 ∧ allOk L2 ∧ allOk L3 ∧ allOk L4 := hj
  have hn : Num rc bo (L1, L2, L3, L4) := ⟨hn1, hn2, hn3, hn4, hn5, hn6⟩
  refine lv_aload_n hx hb dX1_serve_0 rfl (lv_at hl 0 rfl) ?_
  refine lv_iload_n hx hb dX1_serve_1 rfl (lv_at hl 1 rfl) ?_
  have hPc := hP.sub (ws' := [(sh, .inr (1, [.ref r1, .ref r2, .ref r3, .ref r4, .int (nI rc), .int (nI bo), .int lv])), (r1, .inr (0, [.ref j1, .int (nI L1.length)])), (j1, .inl (cI, 30, .inl f1)), (r2, .inr (0, [.ref j2, .int (nI L2.length)])), (j2, .inl (cI, 30, .inl f2)), (r3, .inr (0, [.ref j3, .int (nI L3.length)])), (j3, .inl (cI, 30, .inl f3)), (r4, .inr (0, [.ref j4, .int (nI L4.length)])), (j4, .inl (cI, 30, .inl f4))]) [0, 1, 2, 3, 4, 5, 6, 7, 8] rfl
  have hDc := hD.sub (ws' := [(sh, .inr (1, [.ref r1, .ref r2, .ref r3, .ref r4, .int (nI rc), .int (nI bo), .int lv])), (r1, .inr (0, [.ref j1, .int (nI L1.length)])), (j1, .inl (cI, 30, .inl f1)), (r2, .inr (0, [.ref j2, .int (nI L2.length)])), (j2, .inl (cI, 30, .inl f2)), (r3, .inr (0, [.ref j3, .int (nI L3.length)])), (j3, .inl (cI, 30, .inl f3)), (r4, .inr (0, [.ref j4, .int (nI L4.length)])), (j4, .inl (cI, 30, .inl f4))]) [0, 1, 2, 3, 4, 5, 6, 7, 8] (by decide) rfl
  have hKc := hK.sub (tys' := [(cI, .int)]) [0] rfl
  have hFc := va_free (wc := [(sh, .inr (1, [.ref r1, .ref r2, .ref r3, .ref r4, .int (nI rc), .int (nI bo), .int lv])), (r1, .inr (0, [.ref j1, .int (nI L1.length)])), (j1, .inl (cI, 30, .inl f1)), (r2, .inr (0, [.ref j2, .int (nI L2.length)])), (j2, .inl (cI, 30, .inl f2)), (r3, .inr (0, [.ref j3, .int (nI L3.length)])), (j3, .inl (cI, 30, .inl f3)), (r4, .inr (0, [.ref j4, .int (nI L4.length)])), (j4, .inl (cI, 30, .inl f4))]) hD hS hA [0, 1, 2, 3, 4, 5, 6, 7, 8] rfl
  refine va_calli (va_runV (As := [.int jar]) (rest := []) ⟨hx, hb, hml, hown, hts⟩ (c_X1_whereIs l G cI sh r1 r2 r3 r4 j1 j2 j3 j4 f1 f2 f3 f4 L1 L2 L3 L4 rc bo lv hR1 hR2 hR3 hR4 hn jar s.heap.size) (cwV 1 hts gX1_serve_X1_whereIs rfl rfl rfl (by decide +kernel) ⟨Nat.le_of_ble_eq_true rfl, Nat.le_of_ble_eq_true rfl⟩) (g_preV (As := [.int jar]) hPc hKc hDc 0 rfl rfl) rfl rfl hl.1 rfl (lv_room (Nat.le_of_ble_eq_true rfl)) dX1_serve_2 ⟨(Nat.le_of_ble_eq_true rfl), (Nat.le_of_ble_eq_true rfl)⟩) hS (fun q _ h => hFc q h) hFc (fun r2 u3 t H1 locs ht hvm hw hB hz1 hk1 hS1 => ?_)
  subst hw
  obtain ⟨hP1, hD1⟩ := g_join (wc := [(sh, .inr (1, [.ref r1, .ref r2, .ref r3, .ref r4, .int (nI rc), .int (nI bo), .int lv])), (r1, .inr (0, [.ref j1, .int (nI L1.length)])), (j1, .inl (cI, 30, .inl f1)), (r2, .inr (0, [.ref j2, .int (nI L2.length)])), (j2, .inl (cI, 30, .inl f2)), (r3, .inr (0, [.ref j3, .int (nI L3.length)])), (j3, .inl (cI, 30, .inl f3)), (r4, .inr (0, [.ref j4, .int (nI L4.length)])), (j4, .inl (cI, 30, .inl f4))]) (wr := []) (w1 := [(sh, .inr (1, [.ref r1, .ref r2, .ref r3, .ref r4, .int (nI rc), .int (nI bo), .int lv])), (r1, .inr (0, [.ref j1, .int (nI L1.length)])), (j1, .inl (cI, 30, .inl f1)), (r2, .inr (0, [.ref j2, .int (nI L2.length)])), (j2, .inl (cI, 30, .inl f2)), (r3, .inr (0, [.ref j3, .int (nI L3.length)])), (j3, .inl (cI, 30, .inl f3)), (r4, .inr (0, [.ref j4, .int (nI L4.length)])), (j4, .inl (cI, 30, .inl f4))]) hP hD [0, 1, 2, 3, 4, 5, 6, 7, 8] [] rfl rfl (by decide) (by decide) ht hk1 hFc hB
  clear hB hk1 hz1 hvm ht hPc hDc hKc hFc
  clear hP hD hS
  have hP : va_P G vwCl [(sh, .inr (1, [.ref r1, .ref r2, .ref r3, .ref r4, .int (nI rc), .int (nI bo), .int lv])), (r1, .inr (0, [.ref j1, .int (nI L1.length)])), (j1, .inl (cI, 30, .inl f1)), (r2, .inr (0, [.ref j2, .int (nI L2.length)])), (j2, .inl (cI, 30, .inl f2)), (r3, .inr (0, [.ref j3, .int (nI L3.length)])), (j3, .inl (cI, 30, .inl f3)), (r4, .inr (0, [.ref j4, .int (nI L4.length)])), (j4, .inl (cI, 30, .inl f4))] H1 := hP1
  have hD : va_D A [(sh, .inr (1, [.ref r1, .ref r2, .ref r3, .ref r4, .int (nI rc), .int (nI bo), .int lv])), (r1, .inr (0, [.ref j1, .int (nI L1.length)])), (j1, .inl (cI, 30, .inl f1)), (r2, .inr (0, [.ref j2, .int (nI L2.length)])), (j2, .inl (cI, 30, .inl f2)), (r3, .inr (0, [.ref j3, .int (nI L3.length)])), (j3, .inl (cI, 30, .inl f3)), (r4, .inr (0, [.ref j4, .int (nI L4.length)])), (j4, .inl (cI, 30, .inl f4))] := hD1
  have hS := hS1
  clear hP1 hD1 hS1
  rcases whr_cases (L1, L2, L3, L4) jar with ⟨hw0, -, -, -, -⟩ | ⟨hw0, mj⟩ | ⟨hw0, -, mj⟩ | ⟨hw0, -, -, mj⟩ | ⟨hw0, -, -, -, mj⟩
  · refine g_top (y := nI 0) (by rw [hw0]) ?_
    refine lv_istore_n (lv' := [(2, .int (nI 0)), (0, .ref sh), (1, .int jar)]) hx hb dX1_serve_5 rfl hl (by decide) rfl (fun ls hl => ?_)
    refine lv_aload_n hx hb dX1_serve_6 rfl (lv_at hl 1 rfl) ?_
    refine lv_iload_n hx hb dX1_serve_7 rfl (lv_at hl 0 rfl) ?_
    have hPc := hP.sub (ws' := [(sh, .inr (1, [.ref r1, .ref r2, .ref r3, .ref r4, .int (nI rc), .int (nI bo), .int lv])), (r1, .inr (0, [.ref j1, .int (nI L1.length)])), (j1, .inl (cI, 30, .inl f1)), (r2, .inr (0, [.ref j2, .int (nI L2.length)])), (j2, .inl (cI, 30, .inl f2)), (r3, .inr (0, [.ref j3, .int (nI L3.length)])), (j3, .inl (cI, 30, .inl f3)), (r4, .inr (0, [.ref j4, .int (nI L4.length)])), (j4, .inl (cI, 30, .inl f4))]) [0, 1, 2, 3, 4, 5, 6, 7, 8] rfl
    have hDc := hD.sub (ws' := [(sh, .inr (1, [.ref r1, .ref r2, .ref r3, .ref r4, .int (nI rc), .int (nI bo), .int lv])), (r1, .inr (0, [.ref j1, .int (nI L1.length)])), (j1, .inl (cI, 30, .inl f1)), (r2, .inr (0, [.ref j2, .int (nI L2.length)])), (j2, .inl (cI, 30, .inl f2)), (r3, .inr (0, [.ref j3, .int (nI L3.length)])), (j3, .inl (cI, 30, .inl f3)), (r4, .inr (0, [.ref j4, .int (nI L4.length)])), (j4, .inl (cI, 30, .inl f4))]) [0, 1, 2, 3, 4, 5, 6, 7, 8] (by decide) rfl
    have hKc := hK.sub (tys' := [(cI, .int)]) [0] rfl
    have hFc := va_free (wc := [(sh, .inr (1, [.ref r1, .ref r2, .ref r3, .ref r4, .int (nI rc), .int (nI bo), .int lv])), (r1, .inr (0, [.ref j1, .int (nI L1.length)])), (j1, .inl (cI, 30, .inl f1)), (r2, .inr (0, [.ref j2, .int (nI L2.length)])), (j2, .inl (cI, 30, .inl f2)), (r3, .inr (0, [.ref j3, .int (nI L3.length)])), (j3, .inl (cI, 30, .inl f3)), (r4, .inr (0, [.ref j4, .int (nI L4.length)])), (j4, .inl (cI, 30, .inl f4))]) hD hS hA [0, 1, 2, 3, 4, 5, 6, 7, 8] rfl
    refine va_callq (va_runV (As := [.int (nI 0)]) (rest := []) ⟨hx, hb, hml, hown, hts⟩ (c_X1_rowAt_0 l G cI sh r1 r2 r3 r4 j1 j2 j3 j4 f1 f2 f3 f4 L1 L2 L3 L4 rc bo lv hR1 hR2 hR3 hR4  H1.size) (cwV 1 hts gX1_serve_X1_rowAt rfl rfl rfl (by decide +kernel) ⟨Nat.le_of_ble_eq_true rfl, Nat.le_of_ble_eq_true rfl⟩) (g_preV (As := [.int (nI 0)]) hPc hKc hDc 0 rfl rfl) rfl rfl hl.1 rfl (lv_room (Nat.le_of_ble_eq_true rfl)) dX1_serve_8 ⟨(Nat.le_of_ble_eq_true rfl), (Nat.le_of_ble_eq_true rfl)⟩) hS (fun q _ h => hFc q h) hFc (fun r5 u6 t H4 locs ht hvm hw hB hz1 hk1 hS1 => ?_)
    subst hw
    obtain ⟨hP1, hD1⟩ := g_join (wc := [(sh, .inr (1, [.ref r1, .ref r2, .ref r3, .ref r4, .int (nI rc), .int (nI bo), .int lv])), (r1, .inr (0, [.ref j1, .int (nI L1.length)])), (j1, .inl (cI, 30, .inl f1)), (r2, .inr (0, [.ref j2, .int (nI L2.length)])), (j2, .inl (cI, 30, .inl f2)), (r3, .inr (0, [.ref j3, .int (nI L3.length)])), (j3, .inl (cI, 30, .inl f3)), (r4, .inr (0, [.ref j4, .int (nI L4.length)])), (j4, .inl (cI, 30, .inl f4))]) (wr := []) (w1 := [(sh, .inr (1, [.ref r1, .ref r2, .ref r3, .ref r4, .int (nI rc), .int (nI bo), .int lv])), (r1, .inr (0, [.ref j1, .int (nI L1.length)])), (j1, .inl (cI, 30, .inl f1)), (r2, .inr (0, [.ref j2, .int (nI L2.length)])), (j2, .inl (cI, 30, .inl f2)), (r3, .inr (0, [.ref j3, .int (nI L3.length)])), (j3, .inl (cI, 30, .inl f3)), (r4, .inr (0, [.ref j4, .int (nI L4.length)])), (j4, .inl (cI, 30, .inl f4))]) hP hD [0, 1, 2, 3, 4, 5, 6, 7, 8] [] rfl rfl (by decide) (by decide) ht hk1 hFc hB
    clear hB hk1 hz1 hvm ht hPc hDc hKc hFc
    clear hP hD hS
    have hP : va_P G vwCl [(sh, .inr (1, [.ref r1, .ref r2, .ref r3, .ref r4, .int (nI rc), .int (nI bo), .int lv])), (r1, .inr (0, [.ref j1, .int (nI L1.length)])), (j1, .inl (cI, 30, .inl f1)), (r2, .inr (0, [.ref j2, .int (nI L2.length)])), (j2, .inl (cI, 30, .inl f2)), (r3, .inr (0, [.ref j3, .int (nI L3.length)])), (j3, .inl (cI, 30, .inl f3)), (r4, .inr (0, [.ref j4, .int (nI L4.length)])), (j4, .inl (cI, 30, .inl f4))] H4 := hP1
    have hD : va_D A [(sh, .inr (1, [.ref r1, .ref r2, .ref r3, .ref r4, .int (nI rc), .int (nI bo), .int lv])), (r1, .inr (0, [.ref j1, .int (nI L1.length)])), (j1, .inl (cI, 30, .inl f1)), (r2, .inr (0, [.ref j2, .int (nI L2.length)])), (j2, .inl (cI, 30, .inl f2)), (r3, .inr (0, [.ref j3, .int (nI L3.length)])), (j3, .inl (cI, 30, .inl f3)), (r4, .inr (0, [.ref j4, .int (nI L4.length)])), (j4, .inl (cI, 30, .inl f4))] := hD1
    have hS := hS1
    clear hP1 hD1 hS1
    refine W.eq (g2 := F0 m 11 ls [.null]) rfl ?_
    refine lv_astore_nN (lv' := [(3, .null), (2, .int (nI 0)), (0, .ref sh), (1, .int jar)]) hx hb dX1_serve_11 rfl hl (by decide) rfl (fun ls hl => ?_)
    refine lv_aload_n hx hb dX1_serve_12 rfl (lv_at hl 2 rfl) ?_
    refine lv_iconst (v := (-1)) hx hb dX1_serve_13 (by decide +kernel) ?_
    refine va_put (D := G) (ci := 1) (v := .int (-1)) (ty := .int) (C := RX1) (T := TX1) (N := 7) hx hb hts iX1_serve_X1 tyX1 tyX1_ok nmX1 hown hK hP hD hS 0 rfl rfl 6 (by decide) (hts (.fieldLink RX1 36 "GhostPantry$Shelves" "leaver" "I") (by decide +kernel)) (fun _ h9 => h9) rfl (by decide +kernel) rfl rfl (Nat.le_of_ble_eq_true rfl) dX1_serve_14 (fun H7 locs hP1 hD1 hS1 => ?_)
    clear hP hD hS
    have hP : va_P G vwCl [(sh, .inr (1, [.ref r1, .ref r2, .ref r3, .ref r4, .int (nI rc), .int (nI bo), .int (-1)])), (r1, .inr (0, [.ref j1, .int (nI L1.length)])), (j1, .inl (cI, 30, .inl f1)), (r2, .inr (0, [.ref j2, .int (nI L2.length)])), (j2, .inl (cI, 30, .inl f2)), (r3, .inr (0, [.ref j3, .int (nI L3.length)])), (j3, .inl (cI, 30, .inl f3)), (r4, .inr (0, [.ref j4, .int (nI L4.length)])), (j4, .inl (cI, 30, .inl f4))] H7 := hP1
    have hD : va_D A [(sh, .inr (1, [.ref r1, .ref r2, .ref r3, .ref r4, .int (nI rc), .int (nI bo), .int (-1)])), (r1, .inr (0, [.ref j1, .int (nI L1.length)])), (j1, .inl (cI, 30, .inl f1)), (r2, .inr (0, [.ref j2, .int (nI L2.length)])), (j2, .inl (cI, 30, .inl f2)), (r3, .inr (0, [.ref j3, .int (nI L3.length)])), (j3, .inl (cI, 30, .inl f3)), (r4, .inr (0, [.ref j4, .int (nI L4.length)])), (j4, .inl (cI, 30, .inl f4))] := hD1
    have hS := hS1
    clear hP1 hD1 hS1
    refine lv_aload_nN hx hb dX1_serve_17 rfl (lv_at hl 0 rfl) ?_
    refine lv_ifnonnullN hx hb dX1_serve_18 ?_
    refine lv_aload_n hx hb dX1_serve_21 rfl (lv_at hl 2 rfl) ?_
    have hPc := hP.sub (ws' := [(sh, .inr (1, [.ref r1, .ref r2, .ref r3, .ref r4, .int (nI rc), .int (nI bo), .int (-1)])), (r1, .inr (0, [.ref j1, .int (nI L1.length)])), (j1, .inl (cI, 30, .inl f1)), (r2, .inr (0, [.ref j2, .int (nI L2.length)])), (j2, .inl (cI, 30, .inl f2)), (r3, .inr (0, [.ref j3, .int (nI L3.length)])), (j3, .inl (cI, 30, .inl f3)), (r4, .inr (0, [.ref j4, .int (nI L4.length)])), (j4, .inl (cI, 30, .inl f4))]) [0, 1, 2, 3, 4, 5, 6, 7, 8] rfl
    have hDc := hD.sub (ws' := [(sh, .inr (1, [.ref r1, .ref r2, .ref r3, .ref r4, .int (nI rc), .int (nI bo), .int (-1)])), (r1, .inr (0, [.ref j1, .int (nI L1.length)])), (j1, .inl (cI, 30, .inl f1)), (r2, .inr (0, [.ref j2, .int (nI L2.length)])), (j2, .inl (cI, 30, .inl f2)), (r3, .inr (0, [.ref j3, .int (nI L3.length)])), (j3, .inl (cI, 30, .inl f3)), (r4, .inr (0, [.ref j4, .int (nI L4.length)])), (j4, .inl (cI, 30, .inl f4))]) [0, 1, 2, 3, 4, 5, 6, 7, 8] (by decide) rfl
    have hKc := hK.sub (tys' := [(cI, .int)]) [0] rfl
    have hFc := va_free (wc := [(sh, .inr (1, [.ref r1, .ref r2, .ref r3, .ref r4, .int (nI rc), .int (nI bo), .int (-1)])), (r1, .inr (0, [.ref j1, .int (nI L1.length)])), (j1, .inl (cI, 30, .inl f1)), (r2, .inr (0, [.ref j2, .int (nI L2.length)])), (j2, .inl (cI, 30, .inl f2)), (r3, .inr (0, [.ref j3, .int (nI L3.length)])), (j3, .inl (cI, 30, .inl f3)), (r4, .inr (0, [.ref j4, .int (nI L4.length)])), (j4, .inl (cI, 30, .inl f4))]) hD hS hA [0, 1, 2, 3, 4, 5, 6, 7, 8] rfl
    refine va_callv (va_runV (As := []) (rest := []) ⟨hx, hb, hml, hown, hts⟩ (c_X1_makeWayForNewJar l G cI sh r1 r2 r3 r4 j1 j2 j3 j4 f1 f2 f3 f4 L1 L2 L3 L4 rc bo (-1) hR1 hR2 hR3 hR4 hn ⟨hj1, hj2, hj3, hj4⟩ H7.size) (cwV 0 hts gX1_serve_X1_makeWayForNewJar rfl rfl rfl (by decide +kernel) ⟨Nat.le_of_ble_eq_true rfl, Nat.le_of_ble_eq_true rfl⟩) (g_preV (As := []) hPc hKc hDc 0 rfl rfl) rfl rfl hl.1 rfl (lv_room (Nat.le_of_ble_eq_true rfl)) dX1_serve_22 ⟨(Nat.le_of_ble_eq_true rfl), (Nat.le_of_ble_eq_true rfl)⟩) hS (fun q _ h => hFc q h) hFc (fun u24 t H22 locs ht hvm hw hB hz1 hk1 hS1 => ?_)
    obtain ⟨⟨M8, M9, M10, M11⟩, x20⟩ := u24
    obtain ⟨f12, f13, f14, f15, hf16, hf17, hf18, hf19, hB⟩ := hB
    have hf16 : Rw f12 M8 := hf16
    have hf17 : Rw f13 M9 := hf17
    have hf18 : Rw f14 M10 := hf18
    have hf19 : Rw f15 M11 := hf19
    have hq21 : (M8, M9, M10, M11) = sNew rc bo (L1, L2, L3, L4) := congrArg Prod.fst hw
    have hx21 : x20 = sNewX rc bo (L1, L2, L3, L4) (-1) := congrArg Prod.snd hw
    obtain ⟨-, -, a21, b21, d21⟩ := new_ok hn ⟨hj1, hj2, hj3, hj4⟩
    rw [← hq21] at a21 b21 d21
    dsimp only at a21 b21 d21
    obtain ⟨hP1, hD1⟩ := g_join (wc := [(sh, .inr (1, [.ref r1, .ref r2, .ref r3, .ref r4, .int (nI rc), .int (nI bo), .int (-1)])), (r1, .inr (0, [.ref j1, .int (nI L1.length)])), (j1, .inl (cI, 30, .inl f1)), (r2, .inr (0, [.ref j2, .int (nI L2.length)])), (j2, .inl (cI, 30, .inl f2)), (r3, .inr (0, [.ref j3, .int (nI L3.length)])), (j3, .inl (cI, 30, .inl f3)), (r4, .inr (0, [.ref j4, .int (nI L4.length)])), (j4, .inl (cI, 30, .inl f4))]) (wr := []) (w1 := [(sh, .inr (1, [.ref r1, .ref r2, .ref r3, .ref r4, .int (nI rc), .int (nI bo), .int x20])), (r1, .inr (0, [.ref j1, .int (nI M8.length)])), (j1, .inl (cI, 30, .inl f12)), (r2, .inr (0, [.ref j2, .int (nI M9.length)])), (j2, .inl (cI, 30, .inl f13)), (r3, .inr (0, [.ref j3, .int (nI M10.length)])), (j3, .inl (cI, 30, .inl f14)), (r4, .inr (0, [.ref j4, .int (nI M11.length)])), (j4, .inl (cI, 30, .inl f15))]) hP hD [0, 1, 2, 3, 4, 5, 6, 7, 8] [] rfl rfl (by decide) (by decide) ht hk1 hFc hB
    clear hB hk1 hz1 hvm ht hPc hDc hKc hFc
    clear hP hD hS
    have hP : va_P G vwCl [(sh, .inr (1, [.ref r1, .ref r2, .ref r3, .ref r4, .int (nI rc), .int (nI bo), .int x20])), (r1, .inr (0, [.ref j1, .int (nI M8.length)])), (j1, .inl (cI, 30, .inl f12)), (r2, .inr (0, [.ref j2, .int (nI M9.length)])), (j2, .inl (cI, 30, .inl f13)), (r3, .inr (0, [.ref j3, .int (nI M10.length)])), (j3, .inl (cI, 30, .inl f14)), (r4, .inr (0, [.ref j4, .int (nI M11.length)])), (j4, .inl (cI, 30, .inl f15))] H22 := hP1
    have hD : va_D A [(sh, .inr (1, [.ref r1, .ref r2, .ref r3, .ref r4, .int (nI rc), .int (nI bo), .int x20])), (r1, .inr (0, [.ref j1, .int (nI M8.length)])), (j1, .inl (cI, 30, .inl f12)), (r2, .inr (0, [.ref j2, .int (nI M9.length)])), (j2, .inl (cI, 30, .inl f13)), (r3, .inr (0, [.ref j3, .int (nI M10.length)])), (j3, .inl (cI, 30, .inl f14)), (r4, .inr (0, [.ref j4, .int (nI M11.length)])), (j4, .inl (cI, 30, .inl f15))] := hD1
    have hS := hS1
    clear hP1 hD1 hS1
    refine lv_aload_n hx hb dX1_serve_25 rfl (lv_at hl 2 rfl) ?_
    refine va_get (D := G) (ci := 1) (v := .ref r1) (C := RX1) (T := TX1) (N := 7) hx hb hts iX1_serve_X1 hown hK hP 0 rfl rfl 0 (by decide) (hts (.fieldLink RX1 14 "GhostPantry$Shelves" "recent" "LGhostPantry$Row;") (by decide +kernel)) (fun _ h9 => h9) rfl dX1_serve_26 ?_
    refine lv_iload_n hx hb dX1_serve_29 rfl (lv_at hl 3 rfl) ?_
    have hPc := hP.sub (ws' := [(r1, .inr (0, [.ref j1, .int (nI M8.length)])), (j1, .inl (cI, 30, .inl f12))]) [1, 2] rfl
    have hDc := hD.sub (ws' := [(r1, .inr (0, [.ref j1, .int (nI M8.length)])), (j1, .inl (cI, 30, .inl f12))]) [1, 2] (by decide) rfl
    have hKc := hK.sub (tys' := [(cI, .int)]) [0] rfl
    have hFc := va_free (wc := [(r1, .inr (0, [.ref j1, .int (nI M8.length)])), (j1, .inl (cI, 30, .inl f12))]) hD hS hA [1, 2] rfl
    refine va_callv (va_runV (As := [.int jar]) (rest := []) ⟨hx, hb, hml, hown, hts⟩ (c_X0_putFirst l G cI r1 j1 f12 M8 hf16 (by omega) jar (by first | omega | (simp only [List.length_cons, List.length_dropLast] at *; omega)) H22.size) (cwV 1 hts gX1_serve_X0_putFirst rfl rfl rfl (by decide +kernel) ⟨Nat.le_of_ble_eq_true rfl, Nat.le_of_ble_eq_true rfl⟩) (g_preV (As := [.int jar]) hPc hKc hDc 0 rfl rfl) rfl rfl hl.1 rfl (lv_room (Nat.le_of_ble_eq_true rfl)) dX1_serve_30 ⟨(Nat.le_of_ble_eq_true rfl), (Nat.le_of_ble_eq_true rfl)⟩) hS (fun q _ h => hFc q h) hFc (fun u29 t H27 locs ht hvm hw hB hz1 hk1 hS1 => ?_)
    obtain ⟨f25, hf26, hB⟩ := hB
    obtain ⟨hP1, hD1⟩ := g_join (wc := [(r1, .inr (0, [.ref j1, .int (nI M8.length)])), (j1, .inl (cI, 30, .inl f12))]) (wr := [(sh, .inr (1, [.ref r1, .ref r2, .ref r3, .ref r4, .int (nI rc), .int (nI bo), .int x20])), (r2, .inr (0, [.ref j2, .int (nI M9.length)])), (j2, .inl (cI, 30, .inl f13)), (r3, .inr (0, [.ref j3, .int (nI M10.length)])), (j3, .inl (cI, 30, .inl f14)), (r4, .inr (0, [.ref j4, .int (nI M11.length)])), (j4, .inl (cI, 30, .inl f15))]) (w1 := [(r1, .inr (0, [.ref j1, .int (nI ((jar :: M8).length))])), (j1, .inl (cI, 30, .inl f25))]) hP hD [1, 2] [0, 3, 4, 5, 6, 7, 8] rfl rfl (by decide) (by decide) ht hk1 hFc hB
    clear hB hk1 hz1 hvm ht hPc hDc hKc hFc
    clear hP hD hS
    have hP : va_P G vwCl [(sh, .inr (1, [.ref r1, .ref r2, .ref r3, .ref r4, .int (nI rc), .int (nI bo), .int x20])), (r2, .inr (0, [.ref j2, .int (nI M9.length)])), (j2, .inl (cI, 30, .inl f13)), (r3, .inr (0, [.ref j3, .int (nI M10.length)])), (j3, .inl (cI, 30, .inl f14)), (r4, .inr (0, [.ref j4, .int (nI M11.length)])), (j4, .inl (cI, 30, .inl f15)), (r1, .inr (0, [.ref j1, .int (nI ((jar :: M8).length))])), (j1, .inl (cI, 30, .inl f25))] H27 := hP1
    have hD : va_D A [(sh, .inr (1, [.ref r1, .ref r2, .ref r3, .ref r4, .int (nI rc), .int (nI bo), .int x20])), (r2, .inr (0, [.ref j2, .int (nI M9.length)])), (j2, .inl (cI, 30, .inl f13)), (r3, .inr (0, [.ref j3, .int (nI M10.length)])), (j3, .inl (cI, 30, .inl f14)), (r4, .inr (0, [.ref j4, .int (nI M11.length)])), (j4, .inl (cI, 30, .inl f15)), (r1, .inr (0, [.ref j1, .int (nI ((jar :: M8).length))])), (j1, .inl (cI, 30, .inl f25))] := hD1
    have hS := hS1
    clear hP1 hD1 hS1
    refine lv_iload_n hx hb dX1_serve_33 rfl (lv_at hl 1 rfl) ?_
    have hP9 := hP.sub (ws' := [(sh, .inr (1, [.ref r1, .ref r2, .ref r3, .ref r4, .int (nI rc), .int (nI bo), .int x20])), (r1, .inr (0, [.ref j1, .int (nI ((jar :: M8).length))])), (j1, .inl (cI, 30, .inl f25)), (r2, .inr (0, [.ref j2, .int (nI M9.length)])), (j2, .inl (cI, 30, .inl f13)), (r3, .inr (0, [.ref j3, .int (nI M10.length)])), (j3, .inl (cI, 30, .inl f14)), (r4, .inr (0, [.ref j4, .int (nI M11.length)])), (j4, .inl (cI, 30, .inl f15))]) [0, 7, 8, 1, 2, 3, 4, 5, 6] rfl
    have hD9 := hD.sub (ws' := [(sh, .inr (1, [.ref r1, .ref r2, .ref r3, .ref r4, .int (nI rc), .int (nI bo), .int x20])), (r1, .inr (0, [.ref j1, .int (nI ((jar :: M8).length))])), (j1, .inl (cI, 30, .inl f25)), (r2, .inr (0, [.ref j2, .int (nI M9.length)])), (j2, .inl (cI, 30, .inl f13)), (r3, .inr (0, [.ref j3, .int (nI M10.length)])), (j3, .inl (cI, 30, .inl f14)), (r4, .inr (0, [.ref j4, .int (nI M11.length)])), (j4, .inl (cI, 30, .inl f15))]) [0, 7, 8, 1, 2, 3, 4, 5, 6] (by decide) rfl
    exact W.iret (v := (nI 0)) hx hb hr (fun t ht hW => ⟨⟨(nI 0), (((jar :: M8), M9, M10, M11), bo, x20), rfl, ⟨(by rw [hw0]), (by rw [(serve0 hw0).1, (serve0 hw0).2.1, (serve0 hw0).2.2, ← hq21, ← hx21])⟩, _, _, _, _, hf26, hf17, hf18, hf19, g_at hP9 hK hD9 ht hW⟩, hS.F ht⟩) hS.2.2 dX1_serve_34
  · refine g_top (y := nI 1) (by rw [hw0]) ?_
    have mj : jar ∈ L1 := mj
    have mp := List.length_pos_of_mem mj
    refine lv_istore_n (lv' := [(2, .int (nI 1)), (0, .ref sh), (1, .int jar)]) hx hb dX1_serve_5 rfl hl (by decide) rfl (fun ls hl => ?_)
    refine lv_aload_n hx hb dX1_serve_6 rfl (lv_at hl 1 rfl) ?_
    refine lv_iload_n hx hb dX1_serve_7 rfl (lv_at hl 0 rfl) ?_
    have hPc := hP.sub (ws' := [(sh, .inr (1, [.ref r1, .ref r2, .ref r3, .ref r4, .int (nI rc), .int (nI bo), .int lv])), (r1, .inr (0, [.ref j1, .int (nI L1.length)])), (j1, .inl (cI, 30, .inl f1)), (r2, .inr (0, [.ref j2, .int (nI L2.length)])), (j2, .inl (cI, 30, .inl f2)), (r3, .inr (0, [.ref j3, .int (nI L3.length)])), (j3, .inl (cI, 30, .inl f3)), (r4, .inr (0, [.ref j4, .int (nI L4.length)])), (j4, .inl (cI, 30, .inl f4))]) [0, 1, 2, 3, 4, 5, 6, 7, 8] rfl
    have hDc := hD.sub (ws' := [(sh, .inr (1, [.ref r1, .ref r2, .ref r3, .ref r4, .int (nI rc), .int (nI bo), .int lv])), (r1, .inr (0, [.ref j1, .int (nI L1.length)])), (j1, .inl (cI, 30, .inl f1)), (r2, .inr (0, [.ref j2, .int (nI L2.length)])), (j2, .inl (cI, 30, .inl f2)), (r3, .inr (0, [.ref j3, .int (nI L3.length)])), (j3, .inl (cI, 30, .inl f3)), (r4, .inr (0, [.ref j4, .int (nI L4.length)])), (j4, .inl (cI, 30, .inl f4))]) [0, 1, 2, 3, 4, 5, 6, 7, 8] (by decide) rfl
    have hKc := hK.sub (tys' := [(cI, .int)]) [0] rfl
    have hFc := va_free (wc := [(sh, .inr (1, [.ref r1, .ref r2, .ref r3, .ref r4, .int (nI rc), .int (nI bo), .int lv])), (r1, .inr (0, [.ref j1, .int (nI L1.length)])), (j1, .inl (cI, 30, .inl f1)), (r2, .inr (0, [.ref j2, .int (nI L2.length)])), (j2, .inl (cI, 30, .inl f2)), (r3, .inr (0, [.ref j3, .int (nI L3.length)])), (j3, .inl (cI, 30, .inl f3)), (r4, .inr (0, [.ref j4, .int (nI L4.length)])), (j4, .inl (cI, 30, .inl f4))]) hD hS hA [0, 1, 2, 3, 4, 5, 6, 7, 8] rfl
    refine va_callq (va_runV (As := [.int (nI 1)]) (rest := []) ⟨hx, hb, hml, hown, hts⟩ (c_X1_rowAt_1 l G cI sh r1 r2 r3 r4 j1 j2 j3 j4 f1 f2 f3 f4 L1 L2 L3 L4 rc bo lv hR1 hR2 hR3 hR4  H1.size) (cwV 1 hts gX1_serve_X1_rowAt rfl rfl rfl (by decide +kernel) ⟨Nat.le_of_ble_eq_true rfl, Nat.le_of_ble_eq_true rfl⟩) (g_preV (As := [.int (nI 1)]) hPc hKc hDc 0 rfl rfl) rfl rfl hl.1 rfl (lv_room (Nat.le_of_ble_eq_true rfl)) dX1_serve_8 ⟨(Nat.le_of_ble_eq_true rfl), (Nat.le_of_ble_eq_true rfl)⟩) hS (fun q _ h => hFc q h) hFc (fun r31 u32 t H30 locs ht hvm hw hB hz1 hk1 hS1 => ?_)
    subst hw
    obtain ⟨hP1, hD1⟩ := g_join (wc := [(sh, .inr (1, [.ref r1, .ref r2, .ref r3, .ref r4, .int (nI rc), .int (nI bo), .int lv])), (r1, .inr (0, [.ref j1, .int (nI L1.length)])), (j1, .inl (cI, 30, .inl f1)), (r2, .inr (0, [.ref j2, .int (nI L2.length)])), (j2, .inl (cI, 30, .inl f2)), (r3, .inr (0, [.ref j3, .int (nI L3.length)])), (j3, .inl (cI, 30, .inl f3)), (r4, .inr (0, [.ref j4, .int (nI L4.length)])), (j4, .inl (cI, 30, .inl f4))]) (wr := []) (w1 := [(sh, .inr (1, [.ref r1, .ref r2, .ref r3, .ref r4, .int (nI rc), .int (nI bo), .int lv])), (r1, .inr (0, [.ref j1, .int (nI L1.length)])), (j1, .inl (cI, 30, .inl f1)), (r2, .inr (0, [.ref j2, .int (nI L2.length)])), (j2, .inl (cI, 30, .inl f2)), (r3, .inr (0, [.ref j3, .int (nI L3.length)])), (j3, .inl (cI, 30, .inl f3)), (r4, .inr (0, [.ref j4, .int (nI L4.length)])), (j4, .inl (cI, 30, .inl f4))]) hP hD [0, 1, 2, 3, 4, 5, 6, 7, 8] [] rfl rfl (by decide) (by decide) ht hk1 hFc hB
    clear hB hk1 hz1 hvm ht hPc hDc hKc hFc
    clear hP hD hS
    have hP : va_P G vwCl [(sh, .inr (1, [.ref r1, .ref r2, .ref r3, .ref r4, .int (nI rc), .int (nI bo), .int lv])), (r1, .inr (0, [.ref j1, .int (nI L1.length)])), (j1, .inl (cI, 30, .inl f1)), (r2, .inr (0, [.ref j2, .int (nI L2.length)])), (j2, .inl (cI, 30, .inl f2)), (r3, .inr (0, [.ref j3, .int (nI L3.length)])), (j3, .inl (cI, 30, .inl f3)), (r4, .inr (0, [.ref j4, .int (nI L4.length)])), (j4, .inl (cI, 30, .inl f4))] H30 := hP1
    have hD : va_D A [(sh, .inr (1, [.ref r1, .ref r2, .ref r3, .ref r4, .int (nI rc), .int (nI bo), .int lv])), (r1, .inr (0, [.ref j1, .int (nI L1.length)])), (j1, .inl (cI, 30, .inl f1)), (r2, .inr (0, [.ref j2, .int (nI L2.length)])), (j2, .inl (cI, 30, .inl f2)), (r3, .inr (0, [.ref j3, .int (nI L3.length)])), (j3, .inl (cI, 30, .inl f3)), (r4, .inr (0, [.ref j4, .int (nI L4.length)])), (j4, .inl (cI, 30, .inl f4))] := hD1
    have hS := hS1
    clear hP1 hD1 hS1
    refine W.eq (g2 := F0 m 11 ls [.ref r1]) rfl ?_
    refine lv_astore_n (lv' := [(3, .ref r1), (2, .int (nI 1)), (0, .ref sh), (1, .int jar)]) hx hb dX1_serve_11 rfl hl (by decide) rfl (fun ls hl => ?_)
    refine lv_aload_n hx hb dX1_serve_12 rfl (lv_at hl 2 rfl) ?_
    refine lv_iconst (v := (-1)) hx hb dX1_serve_13 (by decide +kernel) ?_
    refine va_put (D := G) (ci := 1) (v := .int (-1)) (ty := .int) (C := RX1) (T := TX1) (N := 7) hx hb hts iX1_serve_X1 tyX1 tyX1_ok nmX1 hown hK hP hD hS 0 rfl rfl 6 (by decide) (hts (.fieldLink RX1 36 "GhostPantry$Shelves" "leaver" "I") (by decide +kernel)) (fun _ h9 => h9) rfl (by decide +kernel) rfl rfl (Nat.le_of_ble_eq_true rfl) dX1_serve_14 (fun H33 locs hP1 hD1 hS1 => ?_)
    clear hP hD hS
    have hP : va_P G vwCl [(sh, .inr (1, [.ref r1, .ref r2, .ref r3, .ref r4, .int (nI rc), .int (nI bo), .int (-1)])), (r1, .inr (0, [.ref j1, .int (nI L1.length)])), (j1, .inl (cI, 30, .inl f1)), (r2, .inr (0, [.ref j2, .int (nI L2.length)])), (j2, .inl (cI, 30, .inl f2)), (r3, .inr (0, [.ref j3, .int (nI L3.length)])), (j3, .inl (cI, 30, .inl f3)), (r4, .inr (0, [.ref j4, .int (nI L4.length)])), (j4, .inl (cI, 30, .inl f4))] H33 := hP1
    have hD : va_D A [(sh, .inr (1, [.ref r1, .ref r2, .ref r3, .ref r4, .int (nI rc), .int (nI bo), .int (-1)])), (r1, .inr (0, [.ref j1, .int (nI L1.length)])), (j1, .inl (cI, 30, .inl f1)), (r2, .inr (0, [.ref j2, .int (nI L2.length)])), (j2, .inl (cI, 30, .inl f2)), (r3, .inr (0, [.ref j3, .int (nI L3.length)])), (j3, .inl (cI, 30, .inl f3)), (r4, .inr (0, [.ref j4, .int (nI L4.length)])), (j4, .inl (cI, 30, .inl f4))] := hD1
    have hS := hS1
    clear hP1 hD1 hS1
    refine lv_aload_n hx hb dX1_serve_17 rfl (lv_at hl 0 rfl) ?_
    refine lv_ifnonnull (tgt := 35) hx hb dX1_serve_18 (by decide) ?_
    refine lv_iload_n hx hb dX1_serve_35 rfl (lv_at hl 1 rfl) ?_
    refine lv_iconst (v := (nI 3)) hx hb dX1_serve_36 (by decide +kernel) ?_
    refine g_icmp_ne (tgt := 76) hx hb dX1_serve_37 (by decide) (by decide) (by decide) (fun c34 => ?_) (fun c34 => False.elim (by omega))
    refine lv_iload_n hx hb dX1_serve_76 rfl (lv_at hl 1 rfl) ?_
    refine lv_iconst (v := (nI 4)) hx hb dX1_serve_77 (by decide +kernel) ?_
    refine g_icmp_ne (tgt := 111) hx hb dX1_serve_78 (by decide) (by decide) (by decide) (fun c35 => ?_) (fun c35 => False.elim (by omega))
    refine lv_aload_n hx hb dX1_serve_111 rfl (lv_at hl 0 rfl) ?_
    refine lv_aload_n hx hb dX1_serve_112 rfl (lv_at hl 0 rfl) ?_
    refine lv_iload_n hx hb dX1_serve_113 rfl (lv_at hl 3 rfl) ?_
    have hPc := hP.sub (ws' := [(r1, .inr (0, [.ref j1, .int (nI L1.length)])), (j1, .inl (cI, 30, .inl f1))]) [1, 2] rfl
    have hDc := hD.sub (ws' := [(r1, .inr (0, [.ref j1, .int (nI L1.length)])), (j1, .inl (cI, 30, .inl f1))]) [1, 2] (by decide) rfl
    have hKc := hK.sub (tys' := [(cI, .int)]) [0] rfl
    have hFc := va_free (wc := [(r1, .inr (0, [.ref j1, .int (nI L1.length)])), (j1, .inl (cI, 30, .inl f1))]) hD hS hA [1, 2] rfl
    refine va_calli (va_runV (As := [.int jar]) (rest := [.ref r1]) ⟨hx, hb, hml, hown, hts⟩ (c_X0_placeOf l G cI r1 j1 f1 L1 hR1 (by omega) jar H33.size) (cwV 1 hts gX1_serve_X0_placeOf rfl rfl rfl (by decide +kernel) ⟨Nat.le_of_ble_eq_true rfl, Nat.le_of_ble_eq_true rfl⟩) (g_preV (As := [.int jar]) hPc hKc hDc 0 rfl rfl) rfl rfl hl.1 rfl (lv_room (Nat.le_of_ble_eq_true rfl)) dX1_serve_114 ⟨(Nat.le_of_ble_eq_true rfl), (Nat.le_of_ble_eq_true rfl)⟩) hS (fun q _ h => hFc q h) hFc (fun r37 u38 t H36 locs ht hvm hw hB hz1 hk1 hS1 => ?_)
    subst hw
    obtain ⟨hP1, hD1⟩ := g_join (wc := [(r1, .inr (0, [.ref j1, .int (nI L1.length)])), (j1, .inl (cI, 30, .inl f1))]) (wr := [(sh, .inr (1, [.ref r1, .ref r2, .ref r3, .ref r4, .int (nI rc), .int (nI bo), .int (-1)])), (r2, .inr (0, [.ref j2, .int (nI L2.length)])), (j2, .inl (cI, 30, .inl f2)), (r3, .inr (0, [.ref j3, .int (nI L3.length)])), (j3, .inl (cI, 30, .inl f3)), (r4, .inr (0, [.ref j4, .int (nI L4.length)])), (j4, .inl (cI, 30, .inl f4))]) (w1 := [(r1, .inr (0, [.ref j1, .int (nI L1.length)])), (j1, .inl (cI, 30, .inl f1))]) hP hD [1, 2] [0, 3, 4, 5, 6, 7, 8] rfl rfl (by decide) (by decide) ht hk1 hFc hB
    clear hB hk1 hz1 hvm ht hPc hDc hKc hFc
    clear hP hD hS
    have hP : va_P G vwCl [(sh, .inr (1, [.ref r1, .ref r2, .ref r3, .ref r4, .int (nI rc), .int (nI bo), .int (-1)])), (r2, .inr (0, [.ref j2, .int (nI L2.length)])), (j2, .inl (cI, 30, .inl f2)), (r3, .inr (0, [.ref j3, .int (nI L3.length)])), (j3, .inl (cI, 30, .inl f3)), (r4, .inr (0, [.ref j4, .int (nI L4.length)])), (j4, .inl (cI, 30, .inl f4)), (r1, .inr (0, [.ref j1, .int (nI L1.length)])), (j1, .inl (cI, 30, .inl f1))] H36 := hP1
    have hD : va_D A [(sh, .inr (1, [.ref r1, .ref r2, .ref r3, .ref r4, .int (nI rc), .int (nI bo), .int (-1)])), (r2, .inr (0, [.ref j2, .int (nI L2.length)])), (j2, .inl (cI, 30, .inl f2)), (r3, .inr (0, [.ref j3, .int (nI L3.length)])), (j3, .inl (cI, 30, .inl f3)), (r4, .inr (0, [.ref j4, .int (nI L4.length)])), (j4, .inl (cI, 30, .inl f4)), (r1, .inr (0, [.ref j1, .int (nI L1.length)])), (j1, .inl (cI, 30, .inl f1))] := hD1
    have hS := hS1
    clear hP1 hD1 hS1
    have mi := idx_lt mj
    have ml : (L1.eraseIdx (L1.idxOf jar)).length = L1.length - 1 := List.length_eraseIdx_of_lt mi
    refine g_top (y := nI (L1.idxOf jar)) (pos_idx mj) ?_
    have hPc := hP.sub (ws' := [(r1, .inr (0, [.ref j1, .int (nI L1.length)])), (j1, .inl (cI, 30, .inl f1))]) [7, 8] rfl
    have hDc := hD.sub (ws' := [(r1, .inr (0, [.ref j1, .int (nI L1.length)])), (j1, .inl (cI, 30, .inl f1))]) [7, 8] (by decide) rfl
    have hKc := hK.sub (tys' := [(cI, .int)]) [0] rfl
    have hFc := va_free (wc := [(r1, .inr (0, [.ref j1, .int (nI L1.length)])), (j1, .inl (cI, 30, .inl f1))]) hD hS hA [7, 8] rfl
    refine va_calli (va_runV (As := [.int (nI (L1.idxOf jar))]) (rest := []) ⟨hx, hb, hml, hown, hts⟩ (c_X0_takeAt l G cI r1 j1 f1 L1 hR1 (by omega) (L1.idxOf jar) (by first | omega | (simp only [List.length_cons, List.length_dropLast] at *; omega)) H36.size) (cwV 1 hts gX1_serve_X0_takeAt rfl rfl rfl (by decide +kernel) ⟨Nat.le_of_ble_eq_true rfl, Nat.le_of_ble_eq_true rfl⟩) (g_preV (As := [.int (nI (L1.idxOf jar))]) hPc hKc hDc 0 rfl rfl) rfl rfl hl.1 rfl (lv_room (Nat.le_of_ble_eq_true rfl)) dX1_serve_117 ⟨(Nat.le_of_ble_eq_true rfl), (Nat.le_of_ble_eq_true rfl)⟩) hS (fun q _ h => hFc q h) hFc (fun r42 u43 t H41 locs ht hvm hw hB hz1 hk1 hS1 => ?_)
    subst hw
    obtain ⟨f39, hf40, hB⟩ := hB
    obtain ⟨hP1, hD1⟩ := g_join (wc := [(r1, .inr (0, [.ref j1, .int (nI L1.length)])), (j1, .inl (cI, 30, .inl f1))]) (wr := [(sh, .inr (1, [.ref r1, .ref r2, .ref r3, .ref r4, .int (nI rc), .int (nI bo), .int (-1)])), (r2, .inr (0, [.ref j2, .int (nI L2.length)])), (j2, .inl (cI, 30, .inl f2)), (r3, .inr (0, [.ref j3, .int (nI L3.length)])), (j3, .inl (cI, 30, .inl f3)), (r4, .inr (0, [.ref j4, .int (nI L4.length)])), (j4, .inl (cI, 30, .inl f4))]) (w1 := [(r1, .inr (0, [.ref j1, .int (nI ((L1.eraseIdx (L1.idxOf jar)).length))])), (j1, .inl (cI, 30, .inl f39))]) hP hD [7, 8] [0, 1, 2, 3, 4, 5, 6] rfl rfl (by decide) (by decide) ht hk1 hFc hB
    clear hB hk1 hz1 hvm ht hPc hDc hKc hFc
    clear hP hD hS
    have hP : va_P G vwCl [(sh, .inr (1, [.ref r1, .ref r2, .ref r3, .ref r4, .int (nI rc), .int (nI bo), .int (-1)])), (r2, .inr (0, [.ref j2, .int (nI L2.length)])), (j2, .inl (cI, 30, .inl f2)), (r3, .inr (0, [.ref j3, .int (nI L3.length)])), (j3, .inl (cI, 30, .inl f3)), (r4, .inr (0, [.ref j4, .int (nI L4.length)])), (j4, .inl (cI, 30, .inl f4)), (r1, .inr (0, [.ref j1, .int (nI ((L1.eraseIdx (L1.idxOf jar)).length))])), (j1, .inl (cI, 30, .inl f39))] H41 := hP1
    have hD : va_D A [(sh, .inr (1, [.ref r1, .ref r2, .ref r3, .ref r4, .int (nI rc), .int (nI bo), .int (-1)])), (r2, .inr (0, [.ref j2, .int (nI L2.length)])), (j2, .inl (cI, 30, .inl f2)), (r3, .inr (0, [.ref j3, .int (nI L3.length)])), (j3, .inl (cI, 30, .inl f3)), (r4, .inr (0, [.ref j4, .int (nI L4.length)])), (j4, .inl (cI, 30, .inl f4)), (r1, .inr (0, [.ref j1, .int (nI ((L1.eraseIdx (L1.idxOf jar)).length))])), (j1, .inl (cI, 30, .inl f39))] := hD1
    have hS := hS1
    clear hP1 hD1 hS1
    refine lv_pop hx hb dX1_serve_120 rfl ?_
    refine lv_aload_n hx hb dX1_serve_121 rfl (lv_at hl 2 rfl) ?_
    refine va_get (D := G) (ci := 1) (v := .ref r2) (C := RX1) (T := TX1) (N := 7) hx hb hts iX1_serve_X1 hown hK hP 0 rfl rfl 1 (by decide) (hts (.fieldLink RX1 20 "GhostPantry$Shelves" "frequent" "LGhostPantry$Row;") (by decide +kernel)) (fun _ h9 => h9) rfl dX1_serve_122 ?_
    refine lv_iload_n hx hb dX1_serve_125 rfl (lv_at hl 3 rfl) ?_
    have hPc := hP.sub (ws' := [(r2, .inr (0, [.ref j2, .int (nI L2.length)])), (j2, .inl (cI, 30, .inl f2))]) [1, 2] rfl
    have hDc := hD.sub (ws' := [(r2, .inr (0, [.ref j2, .int (nI L2.length)])), (j2, .inl (cI, 30, .inl f2))]) [1, 2] (by decide) rfl
    have hKc := hK.sub (tys' := [(cI, .int)]) [0] rfl
    have hFc := va_free (wc := [(r2, .inr (0, [.ref j2, .int (nI L2.length)])), (j2, .inl (cI, 30, .inl f2))]) hD hS hA [1, 2] rfl
    refine va_callv (va_runV (As := [.int jar]) (rest := []) ⟨hx, hb, hml, hown, hts⟩ (c_X0_putFirst l G cI r2 j2 f2 L2 hR2 (by omega) jar (by first | omega | (simp only [List.length_cons, List.length_dropLast] at *; omega)) H41.size) (cwV 1 hts gX1_serve_X0_putFirst rfl rfl rfl (by decide +kernel) ⟨Nat.le_of_ble_eq_true rfl, Nat.le_of_ble_eq_true rfl⟩) (g_preV (As := [.int jar]) hPc hKc hDc 0 rfl rfl) rfl rfl hl.1 rfl (lv_room (Nat.le_of_ble_eq_true rfl)) dX1_serve_126 ⟨(Nat.le_of_ble_eq_true rfl), (Nat.le_of_ble_eq_true rfl)⟩) hS (fun q _ h => hFc q h) hFc (fun u48 t H46 locs ht hvm hw hB hz1 hk1 hS1 => ?_)
    obtain ⟨f44, hf45, hB⟩ := hB
    obtain ⟨hP1, hD1⟩ := g_join (wc := [(r2, .inr (0, [.ref j2, .int (nI L2.length)])), (j2, .inl (cI, 30, .inl f2))]) (wr := [(sh, .inr (1, [.ref r1, .ref r2, .ref r3, .ref r4, .int (nI rc), .int (nI bo), .int (-1)])), (r3, .inr (0, [.ref j3, .int (nI L3.length)])), (j3, .inl (cI, 30, .inl f3)), (r4, .inr (0, [.ref j4, .int (nI L4.length)])), (j4, .inl (cI, 30, .inl f4)), (r1, .inr (0, [.ref j1, .int (nI ((L1.eraseIdx (L1.idxOf jar)).length))])), (j1, .inl (cI, 30, .inl f39))]) (w1 := [(r2, .inr (0, [.ref j2, .int (nI ((jar :: L2).length))])), (j2, .inl (cI, 30, .inl f44))]) hP hD [1, 2] [0, 3, 4, 5, 6, 7, 8] rfl rfl (by decide) (by decide) ht hk1 hFc hB
    clear hB hk1 hz1 hvm ht hPc hDc hKc hFc
    clear hP hD hS
    have hP : va_P G vwCl [(sh, .inr (1, [.ref r1, .ref r2, .ref r3, .ref r4, .int (nI rc), .int (nI bo), .int (-1)])), (r3, .inr (0, [.ref j3, .int (nI L3.length)])), (j3, .inl (cI, 30, .inl f3)), (r4, .inr (0, [.ref j4, .int (nI L4.length)])), (j4, .inl (cI, 30, .inl f4)), (r1, .inr (0, [.ref j1, .int (nI ((L1.eraseIdx (L1.idxOf jar)).length))])), (j1, .inl (cI, 30, .inl f39)), (r2, .inr (0, [.ref j2, .int (nI ((jar :: L2).length))])), (j2, .inl (cI, 30, .inl f44))] H46 := hP1
    have hD : va_D A [(sh, .inr (1, [.ref r1, .ref r2, .ref r3, .ref r4, .int (nI rc), .int (nI bo), .int (-1)])), (r3, .inr (0, [.ref j3, .int (nI L3.length)])), (j3, .inl (cI, 30, .inl f3)), (r4, .inr (0, [.ref j4, .int (nI L4.length)])), (j4, .inl (cI, 30, .inl f4)), (r1, .inr (0, [.ref j1, .int (nI ((L1.eraseIdx (L1.idxOf jar)).length))])), (j1, .inl (cI, 30, .inl f39)), (r2, .inr (0, [.ref j2, .int (nI ((jar :: L2).length))])), (j2, .inl (cI, 30, .inl f44))] := hD1
    have hS := hS1
    clear hP1 hD1 hS1
    refine lv_iload_n hx hb dX1_serve_129 rfl (lv_at hl 1 rfl) ?_
    have hP9 := hP.sub (ws' := [(sh, .inr (1, [.ref r1, .ref r2, .ref r3, .ref r4, .int (nI rc), .int (nI bo), .int (-1)])), (r1, .inr (0, [.ref j1, .int (nI ((L1.eraseIdx (L1.idxOf jar)).length))])), (j1, .inl (cI, 30, .inl f39)), (r2, .inr (0, [.ref j2, .int (nI ((jar :: L2).length))])), (j2, .inl (cI, 30, .inl f44)), (r3, .inr (0, [.ref j3, .int (nI L3.length)])), (j3, .inl (cI, 30, .inl f3)), (r4, .inr (0, [.ref j4, .int (nI L4.length)])), (j4, .inl (cI, 30, .inl f4))]) [0, 5, 6, 7, 8, 1, 2, 3, 4] rfl
    have hD9 := hD.sub (ws' := [(sh, .inr (1, [.ref r1, .ref r2, .ref r3, .ref r4, .int (nI rc), .int (nI bo), .int (-1)])), (r1, .inr (0, [.ref j1, .int (nI ((L1.eraseIdx (L1.idxOf jar)).length))])), (j1, .inl (cI, 30, .inl f39)), (r2, .inr (0, [.ref j2, .int (nI ((jar :: L2).length))])), (j2, .inl (cI, 30, .inl f44)), (r3, .inr (0, [.ref j3, .int (nI L3.length)])), (j3, .inl (cI, 30, .inl f3)), (r4, .inr (0, [.ref j4, .int (nI L4.length)])), (j4, .inl (cI, 30, .inl f4))]) [0, 5, 6, 7, 8, 1, 2, 3, 4] (by decide) rfl
    exact W.iret (v := (nI 1)) hx hb hr (fun t ht hW => ⟨⟨(nI 1), (((L1.eraseIdx (L1.idxOf jar)), (jar :: L2), L3, L4), bo, (-1)), rfl, ⟨(by rw [hw0]), (by rw [(serve1 hw0).1, (serve1 hw0).2.1, (serve1 hw0).2.2]; rfl)⟩, _, _, _, _, hf40, hf45, hR3, hR4, g_at hP9 hK hD9 ht hW⟩, hS.F ht⟩) hS.2.2 dX1_serve_130
  · refine g_top (y := nI 2) (by rw [hw0]) ?_
    have mj : jar ∈ L2 := mj
    have mp := List.length_pos_of_mem mj
    refine lv_istore_n (lv' := [(2, .int (nI 2)), (0, .ref sh), (1, .int jar)]) hx hb dX1_serve_5 rfl hl (by decide) rfl (fun ls hl => ?_)
    refine lv_aload_n hx hb dX1_serve_6 rfl (lv_at hl 1 rfl) ?_
    refine lv_iload_n hx hb dX1_serve_7 rfl (lv_at hl 0 rfl) ?_
    have hPc := hP.sub (ws' := [(sh, .inr (1, [.ref r1, .ref r2, .ref r3, .ref r4, .int (nI rc), .int (nI bo), .int lv])), (r1, .inr (0, [.ref j1, .int (nI L1.length)])), (j1, .inl (cI, 30, .inl f1)), (r2, .inr (0, [.ref j2, .int (nI L2.length)])), (j2, .inl (cI, 30, .inl f2)), (r3, .inr (0, [.ref j3, .int (nI L3.length)])), (j3, .inl (cI, 30, .inl f3)), (r4, .inr (0, [.ref j4, .int (nI L4.length)])), (j4, .inl (cI, 30, .inl f4))]) [0, 1, 2, 3, 4, 5, 6, 7, 8] rfl
    have hDc := hD.sub (ws' := [(sh, .inr (1, [.ref r1, .ref r2, .ref r3, .ref r4, .int (nI rc), .int (nI bo), .int lv])), (r1, .inr (0, [.ref j1, .int (nI L1.length)])), (j1, .inl (cI, 30, .inl f1)), (r2, .inr (0, [.ref j2, .int (nI L2.length)])), (j2, .inl (cI, 30, .inl f2)), (r3, .inr (0, [.ref j3, .int (nI L3.length)])), (j3, .inl (cI, 30, .inl f3)), (r4, .inr (0, [.ref j4, .int (nI L4.length)])), (j4, .inl (cI, 30, .inl f4))]) [0, 1, 2, 3, 4, 5, 6, 7, 8] (by decide) rfl
    have hKc := hK.sub (tys' := [(cI, .int)]) [0] rfl
    have hFc := va_free (wc := [(sh, .inr (1, [.ref r1, .ref r2, .ref r3, .ref r4, .int (nI rc), .int (nI bo), .int lv])), (r1, .inr (0, [.ref j1, .int (nI L1.length)])), (j1, .inl (cI, 30, .inl f1)), (r2, .inr (0, [.ref j2, .int (nI L2.length)])), (j2, .inl (cI, 30, .inl f2)), (r3, .inr (0, [.ref j3, .int (nI L3.length)])), (j3, .inl (cI, 30, .inl f3)), (r4, .inr (0, [.ref j4, .int (nI L4.length)])), (j4, .inl (cI, 30, .inl f4))]) hD hS hA [0, 1, 2, 3, 4, 5, 6, 7, 8] rfl
    refine va_callq (va_runV (As := [.int (nI 2)]) (rest := []) ⟨hx, hb, hml, hown, hts⟩ (c_X1_rowAt_2 l G cI sh r1 r2 r3 r4 j1 j2 j3 j4 f1 f2 f3 f4 L1 L2 L3 L4 rc bo lv hR1 hR2 hR3 hR4  H1.size) (cwV 1 hts gX1_serve_X1_rowAt rfl rfl rfl (by decide +kernel) ⟨Nat.le_of_ble_eq_true rfl, Nat.le_of_ble_eq_true rfl⟩) (g_preV (As := [.int (nI 2)]) hPc hKc hDc 0 rfl rfl) rfl rfl hl.1 rfl (lv_room (Nat.le_of_ble_eq_true rfl)) dX1_serve_8 ⟨(Nat.le_of_ble_eq_true rfl), (Nat.le_of_ble_eq_true rfl)⟩) hS (fun q _ h => hFc q h) hFc (fun r50 u51 t H49 locs ht hvm hw hB hz1 hk1 hS1 => ?_)
    subst hw
    obtain ⟨hP1, hD1⟩ := g_join (wc := [(sh, .inr (1, [.ref r1, .ref r2, .ref r3, .ref r4, .int (nI rc), .int (nI bo), .int lv])), (r1, .inr (0, [.ref j1, .int (nI L1.length)])), (j1, .inl (cI, 30, .inl f1)), (r2, .inr (0, [.ref j2, .int (nI L2.length)])), (j2, .inl (cI, 30, .inl f2)), (r3, .inr (0, [.ref j3, .int (nI L3.length)])), (j3, .inl (cI, 30, .inl f3)), (r4, .inr (0, [.ref j4, .int (nI L4.length)])), (j4, .inl (cI, 30, .inl f4))]) (wr := []) (w1 := [(sh, .inr (1, [.ref r1, .ref r2, .ref r3, .ref r4, .int (nI rc), .int (nI bo), .int lv])), (r1, .inr (0, [.ref j1, .int (nI L1.length)])), (j1, .inl (cI, 30, .inl f1)), (r2, .inr (0, [.ref j2, .int (nI L2.length)])), (j2, .inl (cI, 30, .inl f2)), (r3, .inr (0, [.ref j3, .int (nI L3.length)])), (j3, .inl (cI, 30, .inl f3)), (r4, .inr (0, [.ref j4, .int (nI L4.length)])), (j4, .inl (cI, 30, .inl f4))]) hP hD [0, 1, 2, 3, 4, 5, 6, 7, 8] [] rfl rfl (by decide) (by decide) ht hk1 hFc hB
    clear hB hk1 hz1 hvm ht hPc hDc hKc hFc
    clear hP hD hS
    have hP : va_P G vwCl [(sh, .inr (1, [.ref r1, .ref r2, .ref r3, .ref r4, .int (nI rc), .int (nI bo), .int lv])), (r1, .inr (0, [.ref j1, .int (nI L1.length)])), (j1, .inl (cI, 30, .inl f1)), (r2, .inr (0, [.ref j2, .int (nI L2.length)])), (j2, .inl (cI, 30, .inl f2)), (r3, .inr (0, [.ref j3, .int (nI L3.length)])), (j3, .inl (cI, 30, .inl f3)), (r4, .inr (0, [.ref j4, .int (nI L4.length)])), (j4, .inl (cI, 30, .inl f4))] H49 := hP1
    have hD : va_D A [(sh, .inr (1, [.ref r1, .ref r2, .ref r3, .ref r4, .int (nI rc), .int (nI bo), .int lv])), (r1, .inr (0, [.ref j1, .int (nI L1.length)])), (j1, .inl (cI, 30, .inl f1)), (r2, .inr (0, [.ref j2, .int (nI L2.length)])), (j2, .inl (cI, 30, .inl f2)), (r3, .inr (0, [.ref j3, .int (nI L3.length)])), (j3, .inl (cI, 30, .inl f3)), (r4, .inr (0, [.ref j4, .int (nI L4.length)])), (j4, .inl (cI, 30, .inl f4))] := hD1
    have hS := hS1
    clear hP1 hD1 hS1
    refine W.eq (g2 := F0 m 11 ls [.ref r2]) rfl ?_
    refine lv_astore_n (lv' := [(3, .ref r2), (2, .int (nI 2)), (0, .ref sh), (1, .int jar)]) hx hb dX1_serve_11 rfl hl (by decide) rfl (fun ls hl => ?_)
    refine lv_aload_n hx hb dX1_serve_12 rfl (lv_at hl 2 rfl) ?_
    refine lv_iconst (v := (-1)) hx hb dX1_serve_13 (by decide +kernel) ?_
    refine va_put (D := G) (ci := 1) (v := .int (-1)) (ty := .int) (C := RX1) (T := TX1) (N := 7) hx hb hts iX1_serve_X1 tyX1 tyX1_ok nmX1 hown hK hP hD hS 0 rfl rfl 6 (by decide) (hts (.fieldLink RX1 36 "GhostPantry$Shelves" "leaver" "I") (by decide +kernel)) (fun _ h9 => h9) rfl (by decide +kernel) rfl rfl (Nat.le_of_ble_eq_true rfl) dX1_serve_14 (fun H52 locs hP1 hD1 hS1 => ?_)
    clear hP hD hS
    have hP : va_P G vwCl [(sh, .inr (1, [.ref r1, .ref r2, .ref r3, .ref r4, .int (nI rc), .int (nI bo), .int (-1)])), (r1, .inr (0, [.ref j1, .int (nI L1.length)])), (j1, .inl (cI, 30, .inl f1)), (r2, .inr (0, [.ref j2, .int (nI L2.length)])), (j2, .inl (cI, 30, .inl f2)), (r3, .inr (0, [.ref j3, .int (nI L3.length)])), (j3, .inl (cI, 30, .inl f3)), (r4, .inr (0, [.ref j4, .int (nI L4.length)])), (j4, .inl (cI, 30, .inl f4))] H52 := hP1
    have hD : va_D A [(sh, .inr (1, [.ref r1, .ref r2, .ref r3, .ref r4, .int (nI rc), .int (nI bo), .int (-1)])), (r1, .inr (0, [.ref j1, .int (nI L1.length)])), (j1, .inl (cI, 30, .inl f1)), (r2, .inr (0, [.ref j2, .int (nI L2.length)])), (j2, .inl (cI, 30, .inl f2)), (r3, .inr (0, [.ref j3, .int (nI L3.length)])), (j3, .inl (cI, 30, .inl f3)), (r4, .inr (0, [.ref j4, .int (nI L4.length)])), (j4, .inl (cI, 30, .inl f4))] := hD1
    have hS := hS1
    clear hP1 hD1 hS1
    refine lv_aload_n hx hb dX1_serve_17 rfl (lv_at hl 0 rfl) ?_
    refine lv_ifnonnull (tgt := 35) hx hb dX1_serve_18 (by decide) ?_
    refine lv_iload_n hx hb dX1_serve_35 rfl (lv_at hl 1 rfl) ?_
    refine lv_iconst (v := (nI 3)) hx hb dX1_serve_36 (by decide +kernel) ?_
    refine g_icmp_ne (tgt := 76) hx hb dX1_serve_37 (by decide) (by decide) (by decide) (fun c53 => ?_) (fun c53 => False.elim (by omega))
    refine lv_iload_n hx hb dX1_serve_76 rfl (lv_at hl 1 rfl) ?_
    refine lv_iconst (v := (nI 4)) hx hb dX1_serve_77 (by decide +kernel) ?_
    refine g_icmp_ne (tgt := 111) hx hb dX1_serve_78 (by decide) (by decide) (by decide) (fun c54 => ?_) (fun c54 => False.elim (by omega))
    refine lv_aload_n hx hb dX1_serve_111 rfl (lv_at hl 0 rfl) ?_
    refine lv_aload_n hx hb dX1_serve_112 rfl (lv_at hl 0 rfl) ?_
    refine lv_iload_n hx hb dX1_serve_113 rfl (lv_at hl 3 rfl) ?_
    have hPc := hP.sub (ws' := [(r2, .inr (0, [.ref j2, .int (nI L2.length)])), (j2, .inl (cI, 30, .inl f2))]) [3, 4] rfl
    have hDc := hD.sub (ws' := [(r2, .inr (0, [.ref j2, .int (nI L2.length)])), (j2, .inl (cI, 30, .inl f2))]) [3, 4] (by decide) rfl
    have hKc := hK.sub (tys' := [(cI, .int)]) [0] rfl
    have hFc := va_free (wc := [(r2, .inr (0, [.ref j2, .int (nI L2.length)])), (j2, .inl (cI, 30, .inl f2))]) hD hS hA [3, 4] rfl
    refine va_calli (va_runV (As := [.int jar]) (rest := [.ref r2]) ⟨hx, hb, hml, hown, hts⟩ (c_X0_placeOf l G cI r2 j2 f2 L2 hR2 (by omega) jar H52.size) (cwV 1 hts gX1_serve_X0_placeOf rfl rfl rfl (by decide +kernel) ⟨Nat.le_of_ble_eq_true rfl, Nat.le_of_ble_eq_true rfl⟩) (g_preV (As := [.int jar]) hPc hKc hDc 0 rfl rfl) rfl rfl hl.1 rfl (lv_room (Nat.le_of_ble_eq_true rfl)) dX1_serve_114 ⟨(Nat.le_of_ble_eq_true rfl), (Nat.le_of_ble_eq_true rfl)⟩) hS (fun q _ h => hFc q h) hFc (fun r56 u57 t H55 locs ht hvm hw hB hz1 hk1 hS1 => ?_)
    subst hw
    obtain ⟨hP1, hD1⟩ := g_join (wc := [(r2, .inr (0, [.ref j2, .int (nI L2.length)])), (j2, .inl (cI, 30, .inl f2))]) (wr := [(sh, .inr (1, [.ref r1, .ref r2, .ref r3, .ref r4, .int (nI rc), .int (nI bo), .int (-1)])), (r1, .inr (0, [.ref j1, .int (nI L1.length)])), (j1, .inl (cI, 30, .inl f1)), (r3, .inr (0, [.ref j3, .int (nI L3.length)])), (j3, .inl (cI, 30, .inl f3)), (r4, .inr (0, [.ref j4, .int (nI L4.length)])), (j4, .inl (cI, 30, .inl f4))]) (w1 := [(r2, .inr (0, [.ref j2, .int (nI L2.length)])), (j2, .inl (cI, 30, .inl f2))]) hP hD [3, 4] [0, 1, 2, 5, 6, 7, 8] rfl rfl (by decide) (by decide) ht hk1 hFc hB
    clear hB hk1 hz1 hvm ht hPc hDc hKc hFc
    clear hP hD hS
    have hP : va_P G vwCl [(sh, .inr (1, [.ref r1, .ref r2, .ref r3, .ref r4, .int (nI rc), .int (nI bo), .int (-1)])), (r1, .inr (0, [.ref j1, .int (nI L1.length)])), (j1, .inl (cI, 30, .inl f1)), (r3, .inr (0, [.ref j3, .int (nI L3.length)])), (j3, .inl (cI, 30, .inl f3)), (r4, .inr (0, [.ref j4, .int (nI L4.length)])), (j4, .inl (cI, 30, .inl f4)), (r2, .inr (0, [.ref j2, .int (nI L2.length)])), (j2, .inl (cI, 30, .inl f2))] H55 := hP1
    have hD : va_D A [(sh, .inr (1, [.ref r1, .ref r2, .ref r3, .ref r4, .int (nI rc), .int (nI bo), .int (-1)])), (r1, .inr (0, [.ref j1, .int (nI L1.length)])), (j1, .inl (cI, 30, .inl f1)), (r3, .inr (0, [.ref j3, .int (nI L3.length)])), (j3, .inl (cI, 30, .inl f3)), (r4, .inr (0, [.ref j4, .int (nI L4.length)])), (j4, .inl (cI, 30, .inl f4)), (r2, .inr (0, [.ref j2, .int (nI L2.length)])), (j2, .inl (cI, 30, .inl f2))] := hD1
    have hS := hS1
    clear hP1 hD1 hS1
    have mi := idx_lt mj
    have ml : (L2.eraseIdx (L2.idxOf jar)).length = L2.length - 1 := List.length_eraseIdx_of_lt mi
    refine g_top (y := nI (L2.idxOf jar)) (pos_idx mj) ?_
    have hPc := hP.sub (ws' := [(r2, .inr (0, [.ref j2, .int (nI L2.length)])), (j2, .inl (cI, 30, .inl f2))]) [7, 8] rfl
    have hDc := hD.sub (ws' := [(r2, .inr (0, [.ref j2, .int (nI L2.length)])), (j2, .inl (cI, 30, .inl f2))]) [7, 8] (by decide) rfl
    have hKc := hK.sub (tys' := [(cI, .int)]) [0] rfl
    have hFc := va_free (wc := [(r2, .inr (0, [.ref j2, .int (nI L2.length)])), (j2, .inl (cI, 30, .inl f2))]) hD hS hA [7, 8] rfl
    refine va_calli (va_runV (As := [.int (nI (L2.idxOf jar))]) (rest := []) ⟨hx, hb, hml, hown, hts⟩ (c_X0_takeAt l G cI r2 j2 f2 L2 hR2 (by omega) (L2.idxOf jar) (by first | omega | (simp only [List.length_cons, List.length_dropLast] at *; omega)) H55.size) (cwV 1 hts gX1_serve_X0_takeAt rfl rfl rfl (by decide +kernel) ⟨Nat.le_of_ble_eq_true rfl, Nat.le_of_ble_eq_true rfl⟩) (g_preV (As := [.int (nI (L2.idxOf jar))]) hPc hKc hDc 0 rfl rfl) rfl rfl hl.1 rfl (lv_room (Nat.le_of_ble_eq_true rfl)) dX1_serve_117 ⟨(Nat.le_of_ble_eq_true rfl), (Nat.le_of_ble_eq_true rfl)⟩) hS (fun q _ h => hFc q h) hFc (fun r61 u62 t H60 locs ht hvm hw hB hz1 hk1 hS1 => ?_)
    subst hw
    obtain ⟨f58, hf59, hB⟩ := hB
    obtain ⟨hP1, hD1⟩ := g_join (wc := [(r2, .inr (0, [.ref j2, .int (nI L2.length)])), (j2, .inl (cI, 30, .inl f2))]) (wr := [(sh, .inr (1, [.ref r1, .ref r2, .ref r3, .ref r4, .int (nI rc), .int (nI bo), .int (-1)])), (r1, .inr (0, [.ref j1, .int (nI L1.length)])), (j1, .inl (cI, 30, .inl f1)), (r3, .inr (0, [.ref j3, .int (nI L3.length)])), (j3, .inl (cI, 30, .inl f3)), (r4, .inr (0, [.ref j4, .int (nI L4.length)])), (j4, .inl (cI, 30, .inl f4))]) (w1 := [(r2, .inr (0, [.ref j2, .int (nI ((L2.eraseIdx (L2.idxOf jar)).length))])), (j2, .inl (cI, 30, .inl f58))]) hP hD [7, 8] [0, 1, 2, 3, 4, 5, 6] rfl rfl (by decide) (by decide) ht hk1 hFc hB
    clear hB hk1 hz1 hvm ht hPc hDc hKc hFc
    clear hP hD hS
    have hP : va_P G vwCl [(sh, .inr (1, [.ref r1, .ref r2, .ref r3, .ref r4, .int (nI rc), .int (nI bo), .int (-1)])), (r1, .inr (0, [.ref j1, .int (nI L1.length)])), (j1, .inl (cI, 30, .inl f1)), (r3, .inr (0, [.ref j3, .int (nI L3.length)])), (j3, .inl (cI, 30, .inl f3)), (r4, .inr (0, [.ref j4, .int (nI L4.length)])), (j4, .inl (cI, 30, .inl f4)), (r2, .inr (0, [.ref j2, .int (nI ((L2.eraseIdx (L2.idxOf jar)).length))])), (j2, .inl (cI, 30, .inl f58))] H60 := hP1
    have hD : va_D A [(sh, .inr (1, [.ref r1, .ref r2, .ref r3, .ref r4, .int (nI rc), .int (nI bo), .int (-1)])), (r1, .inr (0, [.ref j1, .int (nI L1.length)])), (j1, .inl (cI, 30, .inl f1)), (r3, .inr (0, [.ref j3, .int (nI L3.length)])), (j3, .inl (cI, 30, .inl f3)), (r4, .inr (0, [.ref j4, .int (nI L4.length)])), (j4, .inl (cI, 30, .inl f4)), (r2, .inr (0, [.ref j2, .int (nI ((L2.eraseIdx (L2.idxOf jar)).length))])), (j2, .inl (cI, 30, .inl f58))] := hD1
    have hS := hS1
    clear hP1 hD1 hS1
    refine lv_pop hx hb dX1_serve_120 rfl ?_
    refine lv_aload_n hx hb dX1_serve_121 rfl (lv_at hl 2 rfl) ?_
    refine va_get (D := G) (ci := 1) (v := .ref r2) (C := RX1) (T := TX1) (N := 7) hx hb hts iX1_serve_X1 hown hK hP 0 rfl rfl 1 (by decide) (hts (.fieldLink RX1 20 "GhostPantry$Shelves" "frequent" "LGhostPantry$Row;") (by decide +kernel)) (fun _ h9 => h9) rfl dX1_serve_122 ?_
    refine lv_iload_n hx hb dX1_serve_125 rfl (lv_at hl 3 rfl) ?_
    have hPc := hP.sub (ws' := [(r2, .inr (0, [.ref j2, .int (nI ((L2.eraseIdx (L2.idxOf jar)).length))])), (j2, .inl (cI, 30, .inl f58))]) [7, 8] rfl
    have hDc := hD.sub (ws' := [(r2, .inr (0, [.ref j2, .int (nI ((L2.eraseIdx (L2.idxOf jar)).length))])), (j2, .inl (cI, 30, .inl f58))]) [7, 8] (by decide) rfl
    have hKc := hK.sub (tys' := [(cI, .int)]) [0] rfl
    have hFc := va_free (wc := [(r2, .inr (0, [.ref j2, .int (nI ((L2.eraseIdx (L2.idxOf jar)).length))])), (j2, .inl (cI, 30, .inl f58))]) hD hS hA [7, 8] rfl
    refine va_callv (va_runV (As := [.int jar]) (rest := []) ⟨hx, hb, hml, hown, hts⟩ (c_X0_putFirst l G cI r2 j2 f58 (L2.eraseIdx (L2.idxOf jar)) hf59 (by first | omega | (simp only [List.length_cons, List.length_dropLast] at *; omega)) jar (by first | omega | (simp only [List.length_cons, List.length_dropLast] at *; omega)) H60.size) (cwV 1 hts gX1_serve_X0_putFirst rfl rfl rfl (by decide +kernel) ⟨Nat.le_of_ble_eq_true rfl, Nat.le_of_ble_eq_true rfl⟩) (g_preV (As := [.int jar]) hPc hKc hDc 0 rfl rfl) rfl rfl hl.1 rfl (lv_room (Nat.le_of_ble_eq_true rfl)) dX1_serve_126 ⟨(Nat.le_of_ble_eq_true rfl), (Nat.le_of_ble_eq_true rfl)⟩) hS (fun q _ h => hFc q h) hFc (fun u67 t H65 locs ht hvm hw hB hz1 hk1 hS1 => ?_)
    obtain ⟨f63, hf64, hB⟩ := hB
    obtain ⟨hP1, hD1⟩ := g_join (wc := [(r2, .inr (0, [.ref j2, .int (nI ((L2.eraseIdx (L2.idxOf jar)).length))])), (j2, .inl (cI, 30, .inl f58))]) (wr := [(sh, .inr (1, [.ref r1, .ref r2, .ref r3, .ref r4, .int (nI rc), .int (nI bo), .int (-1)])), (r1, .inr (0, [.ref j1, .int (nI L1.length)])), (j1, .inl (cI, 30, .inl f1)), (r3, .inr (0, [.ref j3, .int (nI L3.length)])), (j3, .inl (cI, 30, .inl f3)), (r4, .inr (0, [.ref j4, .int (nI L4.length)])), (j4, .inl (cI, 30, .inl f4))]) (w1 := [(r2, .inr (0, [.ref j2, .int (nI ((jar :: (L2.eraseIdx (L2.idxOf jar))).length))])), (j2, .inl (cI, 30, .inl f63))]) hP hD [7, 8] [0, 1, 2, 3, 4, 5, 6] rfl rfl (by decide) (by decide) ht hk1 hFc hB
    clear hB hk1 hz1 hvm ht hPc hDc hKc hFc
    clear hP hD hS
    have hP : va_P G vwCl [(sh, .inr (1, [.ref r1, .ref r2, .ref r3, .ref r4, .int (nI rc), .int (nI bo), .int (-1)])), (r1, .inr (0, [.ref j1, .int (nI L1.length)])), (j1, .inl (cI, 30, .inl f1)), (r3, .inr (0, [.ref j3, .int (nI L3.length)])), (j3, .inl (cI, 30, .inl f3)), (r4, .inr (0, [.ref j4, .int (nI L4.length)])), (j4, .inl (cI, 30, .inl f4)), (r2, .inr (0, [.ref j2, .int (nI ((jar :: (L2.eraseIdx (L2.idxOf jar))).length))])), (j2, .inl (cI, 30, .inl f63))] H65 := hP1
    have hD : va_D A [(sh, .inr (1, [.ref r1, .ref r2, .ref r3, .ref r4, .int (nI rc), .int (nI bo), .int (-1)])), (r1, .inr (0, [.ref j1, .int (nI L1.length)])), (j1, .inl (cI, 30, .inl f1)), (r3, .inr (0, [.ref j3, .int (nI L3.length)])), (j3, .inl (cI, 30, .inl f3)), (r4, .inr (0, [.ref j4, .int (nI L4.length)])), (j4, .inl (cI, 30, .inl f4)), (r2, .inr (0, [.ref j2, .int (nI ((jar :: (L2.eraseIdx (L2.idxOf jar))).length))])), (j2, .inl (cI, 30, .inl f63))] := hD1
    have hS := hS1
    clear hP1 hD1 hS1
    refine lv_iload_n hx hb dX1_serve_129 rfl (lv_at hl 1 rfl) ?_
    have hP9 := hP.sub (ws' := [(sh, .inr (1, [.ref r1, .ref r2, .ref r3, .ref r4, .int (nI rc), .int (nI bo), .int (-1)])), (r1, .inr (0, [.ref j1, .int (nI L1.length)])), (j1, .inl (cI, 30, .inl f1)), (r2, .inr (0, [.ref j2, .int (nI ((jar :: (L2.eraseIdx (L2.idxOf jar))).length))])), (j2, .inl (cI, 30, .inl f63)), (r3, .inr (0, [.ref j3, .int (nI L3.length)])), (j3, .inl (cI, 30, .inl f3)), (r4, .inr (0, [.ref j4, .int (nI L4.length)])), (j4, .inl (cI, 30, .inl f4))]) [0, 1, 2, 7, 8, 3, 4, 5, 6] rfl
    have hD9 := hD.sub (ws' := [(sh, .inr (1, [.ref r1, .ref r2, .ref r3, .ref r4, .int (nI rc), .int (nI bo), .int (-1)])), (r1, .inr (0, [.ref j1, .int (nI L1.length)])), (j1, .inl (cI, 30, .inl f1)), (r2, .inr (0, [.ref j2, .int (nI ((jar :: (L2.eraseIdx (L2.idxOf jar))).length))])), (j2, .inl (cI, 30, .inl f63)), (r3, .inr (0, [.ref j3, .int (nI L3.length)])), (j3, .inl (cI, 30, .inl f3)), (r4, .inr (0, [.ref j4, .int (nI L4.length)])), (j4, .inl (cI, 30, .inl f4))]) [0, 1, 2, 7, 8, 3, 4, 5, 6] (by decide) rfl
    exact W.iret (v := (nI 2)) hx hb hr (fun t ht hW => ⟨⟨(nI 2), ((L1, (jar :: (L2.eraseIdx (L2.idxOf jar))), L3, L4), bo, (-1)), rfl, ⟨(by rw [hw0]), (by rw [(serve2 hw0).1, (serve2 hw0).2.1, (serve2 hw0).2.2]; rfl)⟩, _, _, _, _, hR1, hf64, hR3, hR4, g_at hP9 hK hD9 ht hW⟩, hS.F ht⟩) hS.2.2 dX1_serve_130
  · refine g_top (y := nI 3) (by rw [hw0]) ?_
    have mj : jar ∈ L3 := mj
    have mp := List.length_pos_of_mem mj
    refine lv_istore_n (lv' := [(2, .int (nI 3)), (0, .ref sh), (1, .int jar)]) hx hb dX1_serve_5 rfl hl (by decide) rfl (fun ls hl => ?_)
    refine lv_aload_n hx hb dX1_serve_6 rfl (lv_at hl 1 rfl) ?_
    refine lv_iload_n hx hb dX1_serve_7 rfl (lv_at hl 0 rfl) ?_
    have hPc := hP.sub (ws' := [(sh, .inr (1, [.ref r1, .ref r2, .ref r3, .ref r4, .int (nI rc), .int (nI bo), .int lv])), (r1, .inr (0, [.ref j1, .int (nI L1.length)])), (j1, .inl (cI, 30, .inl f1)), (r2, .inr (0, [.ref j2, .int (nI L2.length)])), (j2, .inl (cI, 30, .inl f2)), (r3, .inr (0, [.ref j3, .int (nI L3.length)])), (j3, .inl (cI, 30, .inl f3)), (r4, .inr (0, [.ref j4, .int (nI L4.length)])), (j4, .inl (cI, 30, .inl f4))]) [0, 1, 2, 3, 4, 5, 6, 7, 8] rfl
    have hDc := hD.sub (ws' := [(sh, .inr (1, [.ref r1, .ref r2, .ref r3, .ref r4, .int (nI rc), .int (nI bo), .int lv])), (r1, .inr (0, [.ref j1, .int (nI L1.length)])), (j1, .inl (cI, 30, .inl f1)), (r2, .inr (0, [.ref j2, .int (nI L2.length)])), (j2, .inl (cI, 30, .inl f2)), (r3, .inr (0, [.ref j3, .int (nI L3.length)])), (j3, .inl (cI, 30, .inl f3)), (r4, .inr (0, [.ref j4, .int (nI L4.length)])), (j4, .inl (cI, 30, .inl f4))]) [0, 1, 2, 3, 4, 5, 6, 7, 8] (by decide) rfl
    have hKc := hK.sub (tys' := [(cI, .int)]) [0] rfl
    have hFc := va_free (wc := [(sh, .inr (1, [.ref r1, .ref r2, .ref r3, .ref r4, .int (nI rc), .int (nI bo), .int lv])), (r1, .inr (0, [.ref j1, .int (nI L1.length)])), (j1, .inl (cI, 30, .inl f1)), (r2, .inr (0, [.ref j2, .int (nI L2.length)])), (j2, .inl (cI, 30, .inl f2)), (r3, .inr (0, [.ref j3, .int (nI L3.length)])), (j3, .inl (cI, 30, .inl f3)), (r4, .inr (0, [.ref j4, .int (nI L4.length)])), (j4, .inl (cI, 30, .inl f4))]) hD hS hA [0, 1, 2, 3, 4, 5, 6, 7, 8] rfl
    refine va_callq (va_runV (As := [.int (nI 3)]) (rest := []) ⟨hx, hb, hml, hown, hts⟩ (c_X1_rowAt_3 l G cI sh r1 r2 r3 r4 j1 j2 j3 j4 f1 f2 f3 f4 L1 L2 L3 L4 rc bo lv hR1 hR2 hR3 hR4  H1.size) (cwV 1 hts gX1_serve_X1_rowAt rfl rfl rfl (by decide +kernel) ⟨Nat.le_of_ble_eq_true rfl, Nat.le_of_ble_eq_true rfl⟩) (g_preV (As := [.int (nI 3)]) hPc hKc hDc 0 rfl rfl) rfl rfl hl.1 rfl (lv_room (Nat.le_of_ble_eq_true rfl)) dX1_serve_8 ⟨(Nat.le_of_ble_eq_true rfl), (Nat.le_of_ble_eq_true rfl)⟩) hS (fun q _ h => hFc q h) hFc (fun r69 u70 t H68 locs ht hvm hw hB hz1 hk1 hS1 => ?_)
    subst hw
    obtain ⟨hP1, hD1⟩ := g_join (wc := [(sh, .inr (1, [.ref r1, .ref r2, .ref r3, .ref r4, .int (nI rc), .int (nI bo), .int lv])), (r1, .inr (0, [.ref j1, .int (nI L1.length)])), (j1, .inl (cI, 30, .inl f1)), (r2, .inr (0, [.ref j2, .int (nI L2.length)])), (j2, .inl (cI, 30, .inl f2)), (r3, .inr (0, [.ref j3, .int (nI L3.length)])), (j3, .inl (cI, 30, .inl f3)), (r4, .inr (0, [.ref j4, .int (nI L4.length)])), (j4, .inl (cI, 30, .inl f4))]) (wr := []) (w1 := [(sh, .inr (1, [.ref r1, .ref r2, .ref r3, .ref r4, .int (nI rc), .int (nI bo), .int lv])), (r1, .inr (0, [.ref j1, .int (nI L1.length)])), (j1, .inl (cI, 30, .inl f1)), (r2, .inr (0, [.ref j2, .int (nI L2.length)])), (j2, .inl (cI, 30, .inl f2)), (r3, .inr (0, [.ref j3, .int (nI L3.length)])), (j3, .inl (cI, 30, .inl f3)), (r4, .inr (0, [.ref j4, .int (nI L4.length)])), (j4, .inl (cI, 30, .inl f4))]) hP hD [0, 1, 2, 3, 4, 5, 6, 7, 8] [] rfl rfl (by decide) (by decide) ht hk1 hFc hB
    clear hB hk1 hz1 hvm ht hPc hDc hKc hFc
    clear hP hD hS
    have hP : va_P G vwCl [(sh, .inr (1, [.ref r1, .ref r2, .ref r3, .ref r4, .int (nI rc), .int (nI bo), .int lv])), (r1, .inr (0, [.ref j1, .int (nI L1.length)])), (j1, .inl (cI, 30, .inl f1)), (r2, .inr (0, [.ref j2, .int (nI L2.length)])), (j2, .inl (cI, 30, .inl f2)), (r3, .inr (0, [.ref j3, .int (nI L3.length)])), (j3, .inl (cI, 30, .inl f3)), (r4, .inr (0, [.ref j4, .int (nI L4.length)])), (j4, .inl (cI, 30, .inl f4))] H68 := hP1
    have hD : va_D A [(sh, .inr (1, [.ref r1, .ref r2, .ref r3, .ref r4, .int (nI rc), .int (nI bo), .int lv])), (r1, .inr (0, [.ref j1, .int (nI L1.length)])), (j1, .inl (cI, 30, .inl f1)), (r2, .inr (0, [.ref j2, .int (nI L2.length)])), (j2, .inl (cI, 30, .inl f2)), (r3, .inr (0, [.ref j3, .int (nI L3.length)])), (j3, .inl (cI, 30, .inl f3)), (r4, .inr (0, [.ref j4, .int (nI L4.length)])), (j4, .inl (cI, 30, .inl f4))] := hD1
    have hS := hS1
    clear hP1 hD1 hS1
    refine W.eq (g2 := F0 m 11 ls [.ref r3]) rfl ?_
    refine lv_astore_n (lv' := [(3, .ref r3), (2, .int (nI 3)), (0, .ref sh), (1, .int jar)]) hx hb dX1_serve_11 rfl hl (by decide) rfl (fun ls hl => ?_)
    refine lv_aload_n hx hb dX1_serve_12 rfl (lv_at hl 2 rfl) ?_
    refine lv_iconst (v := (-1)) hx hb dX1_serve_13 (by decide +kernel) ?_
    refine va_put (D := G) (ci := 1) (v := .int (-1)) (ty := .int) (C := RX1) (T := TX1) (N := 7) hx hb hts iX1_serve_X1 tyX1 tyX1_ok nmX1 hown hK hP hD hS 0 rfl rfl 6 (by decide) (hts (.fieldLink RX1 36 "GhostPantry$Shelves" "leaver" "I") (by decide +kernel)) (fun _ h9 => h9) rfl (by decide +kernel) rfl rfl (Nat.le_of_ble_eq_true rfl) dX1_serve_14 (fun H71 locs hP1 hD1 hS1 => ?_)
    clear hP hD hS
    have hP : va_P G vwCl [(sh, .inr (1, [.ref r1, .ref r2, .ref r3, .ref r4, .int (nI rc), .int (nI bo), .int (-1)])), (r1, .inr (0, [.ref j1, .int (nI L1.length)])), (j1, .inl (cI, 30, .inl f1)), (r2, .inr (0, [.ref j2, .int (nI L2.length)])), (j2, .inl (cI, 30, .inl f2)), (r3, .inr (0, [.ref j3, .int (nI L3.length)])), (j3, .inl (cI, 30, .inl f3)), (r4, .inr (0, [.ref j4, .int (nI L4.length)])), (j4, .inl (cI, 30, .inl f4))] H71 := hP1
    have hD : va_D A [(sh, .inr (1, [.ref r1, .ref r2, .ref r3, .ref r4, .int (nI rc), .int (nI bo), .int (-1)])), (r1, .inr (0, [.ref j1, .int (nI L1.length)])), (j1, .inl (cI, 30, .inl f1)), (r2, .inr (0, [.ref j2, .int (nI L2.length)])), (j2, .inl (cI, 30, .inl f2)), (r3, .inr (0, [.ref j3, .int (nI L3.length)])), (j3, .inl (cI, 30, .inl f3)), (r4, .inr (0, [.ref j4, .int (nI L4.length)])), (j4, .inl (cI, 30, .inl f4))] := hD1
    have hS := hS1
    clear hP1 hD1 hS1
    refine lv_aload_n hx hb dX1_serve_17 rfl (lv_at hl 0 rfl) ?_
    refine lv_ifnonnull (tgt := 35) hx hb dX1_serve_18 (by decide) ?_
    refine lv_iload_n hx hb dX1_serve_35 rfl (lv_at hl 1 rfl) ?_
    refine lv_iconst (v := (nI 3)) hx hb dX1_serve_36 (by decide +kernel) ?_
    refine g_icmp_ne (tgt := 76) hx hb dX1_serve_37 (by decide) (by decide) (by decide) (fun c72 => False.elim (by omega)) (fun c72 => ?_)
    refine lv_aload_n hx hb dX1_serve_40 rfl (lv_at hl 2 rfl) ?_
    refine lv_aload_n hx hb dX1_serve_41 rfl (lv_at hl 2 rfl) ?_
    refine va_get (D := G) (ci := 1) (v := .int (nI rc)) (C := RX1) (T := TX1) (N := 7) hx hb hts iX1_serve_X1 hown hK hP 0 rfl rfl 4 (by decide) (hts (.fieldLink RX1 29 "GhostPantry$Shelves" "room" "I") (by decide +kernel)) (fun _ h9 => h9) rfl dX1_serve_42 ?_
    refine lv_aload_n hx hb dX1_serve_45 rfl (lv_at hl 2 rfl) ?_
    refine va_get (D := G) (ci := 1) (v := .int (nI bo)) (C := RX1) (T := TX1) (N := 7) hx hb hts iX1_serve_X1 hown hK hP 0 rfl rfl 5 (by decide) (hts (.fieldLink RX1 33 "GhostPantry$Shelves" "border" "I") (by decide +kernel)) (fun _ h9 => h9) rfl dX1_serve_46 ?_
    refine lv_aload_n hx hb dX1_serve_49 rfl (lv_at hl 2 rfl) ?_
    refine lv_aload_n hx hb dX1_serve_50 rfl (lv_at hl 2 rfl) ?_
    refine va_get (D := G) (ci := 1) (v := .ref r4) (C := RX1) (T := TX1) (N := 7) hx hb hts iX1_serve_X1 hown hK hP 0 rfl rfl 3 (by decide) (hts (.fieldLink RX1 26 "GhostPantry$Shelves" "frequentGhosts" "LGhostPantry$Row;") (by decide +kernel)) (fun _ h9 => h9) rfl dX1_serve_51 ?_
    refine lv_aload_n hx hb dX1_serve_54 rfl (lv_at hl 2 rfl) ?_
    refine va_get (D := G) (ci := 1) (v := .ref r3) (C := RX1) (T := TX1) (N := 7) hx hb hts iX1_serve_X1 hown hK hP 0 rfl rfl 2 (by decide) (hts (.fieldLink RX1 23 "GhostPantry$Shelves" "recentGhosts" "LGhostPantry$Row;") (by decide +kernel)) (fun _ h9 => h9) rfl dX1_serve_55 ?_
    have hPc := hP.sub (ws' := [(sh, .inr (1, [.ref r1, .ref r2, .ref r3, .ref r4, .int (nI rc), .int (nI bo), .int (-1)])), (r1, .inr (0, [.ref j1, .int (nI L1.length)])), (j1, .inl (cI, 30, .inl f1)), (r2, .inr (0, [.ref j2, .int (nI L2.length)])), (j2, .inl (cI, 30, .inl f2)), (r3, .inr (0, [.ref j3, .int (nI L3.length)])), (j3, .inl (cI, 30, .inl f3)), (r4, .inr (0, [.ref j4, .int (nI L4.length)])), (j4, .inl (cI, 30, .inl f4))]) [0, 1, 2, 3, 4, 5, 6, 7, 8] rfl
    have hDc := hD.sub (ws' := [(sh, .inr (1, [.ref r1, .ref r2, .ref r3, .ref r4, .int (nI rc), .int (nI bo), .int (-1)])), (r1, .inr (0, [.ref j1, .int (nI L1.length)])), (j1, .inl (cI, 30, .inl f1)), (r2, .inr (0, [.ref j2, .int (nI L2.length)])), (j2, .inl (cI, 30, .inl f2)), (r3, .inr (0, [.ref j3, .int (nI L3.length)])), (j3, .inl (cI, 30, .inl f3)), (r4, .inr (0, [.ref j4, .int (nI L4.length)])), (j4, .inl (cI, 30, .inl f4))]) [0, 1, 2, 3, 4, 5, 6, 7, 8] (by decide) rfl
    have hKc := hK.sub (tys' := [(cI, .int)]) [0] rfl
    have hFc := va_free (wc := [(sh, .inr (1, [.ref r1, .ref r2, .ref r3, .ref r4, .int (nI rc), .int (nI bo), .int (-1)])), (r1, .inr (0, [.ref j1, .int (nI L1.length)])), (j1, .inl (cI, 30, .inl f1)), (r2, .inr (0, [.ref j2, .int (nI L2.length)])), (j2, .inl (cI, 30, .inl f2)), (r3, .inr (0, [.ref j3, .int (nI L3.length)])), (j3, .inl (cI, 30, .inl f3)), (r4, .inr (0, [.ref j4, .int (nI L4.length)])), (j4, .inl (cI, 30, .inl f4))]) hD hS hA [0, 1, 2, 3, 4, 5, 6, 7, 8] rfl
    refine va_calli (va_runV (As := [.ref r4, .ref r3]) (rest := [.int (nI bo), .int (nI rc), .ref sh]) ⟨hx, hb, hml, hown, hts⟩ (c_X1_step_4 l G cI sh r1 r2 r3 r4 j1 j2 j3 j4 f1 f2 f3 f4 L1 L2 L3 L4 rc bo (-1) hR1 hR2 hR3 hR4 (by omega) (by omega) (by omega) H71.size) (cwV 2 hts gX1_serve_X1_step rfl rfl rfl (by decide +kernel) ⟨Nat.le_of_ble_eq_true rfl, Nat.le_of_ble_eq_true rfl⟩) (g_preV (As := [.ref r4, .ref r3]) hPc hKc hDc 0 rfl rfl) rfl rfl hl.1 rfl (lv_room (Nat.le_of_ble_eq_true rfl)) dX1_serve_58 ⟨(Nat.le_of_ble_eq_true rfl), (Nat.le_of_ble_eq_true rfl)⟩) hS (fun q _ h => hFc q h) hFc (fun r74 u75 t H73 locs ht hvm hw hB hz1 hk1 hS1 => ?_)
    subst hw
    obtain ⟨hP1, hD1⟩ := g_join (wc := [(sh, .inr (1, [.ref r1, .ref r2, .ref r3, .ref r4, .int (nI rc), .int (nI bo), .int (-1)])), (r1, .inr (0, [.ref j1, .int (nI L1.length)])), (j1, .inl (cI, 30, .inl f1)), (r2, .inr (0, [.ref j2, .int (nI L2.length)])), (j2, .inl (cI, 30, .inl f2)), (r3, .inr (0, [.ref j3, .int (nI L3.length)])), (j3, .inl (cI, 30, .inl f3)), (r4, .inr (0, [.ref j4, .int (nI L4.length)])), (j4, .inl (cI, 30, .inl f4))]) (wr := []) (w1 := [(sh, .inr (1, [.ref r1, .ref r2, .ref r3, .ref r4, .int (nI rc), .int (nI bo), .int (-1)])), (r1, .inr (0, [.ref j1, .int (nI L1.length)])), (j1, .inl (cI, 30, .inl f1)), (r2, .inr (0, [.ref j2, .int (nI L2.length)])), (j2, .inl (cI, 30, .inl f2)), (r3, .inr (0, [.ref j3, .int (nI L3.length)])), (j3, .inl (cI, 30, .inl f3)), (r4, .inr (0, [.ref j4, .int (nI L4.length)])), (j4, .inl (cI, 30, .inl f4))]) hP hD [0, 1, 2, 3, 4, 5, 6, 7, 8] [] rfl rfl (by decide) (by decide) ht hk1 hFc hB
    clear hB hk1 hz1 hvm ht hPc hDc hKc hFc
    clear hP hD hS
    have hP : va_P G vwCl [(sh, .inr (1, [.ref r1, .ref r2, .ref r3, .ref r4, .int (nI rc), .int (nI bo), .int (-1)])), (r1, .inr (0, [.ref j1, .int (nI L1.length)])), (j1, .inl (cI, 30, .inl f1)), (r2, .inr (0, [.ref j2, .int (nI L2.length)])), (j2, .inl (cI, 30, .inl f2)), (r3, .inr (0, [.ref j3, .int (nI L3.length)])), (j3, .inl (cI, 30, .inl f3)), (r4, .inr (0, [.ref j4, .int (nI L4.length)])), (j4, .inl (cI, 30, .inl f4))] H73 := hP1
    have hD : va_D A [(sh, .inr (1, [.ref r1, .ref r2, .ref r3, .ref r4, .int (nI rc), .int (nI bo), .int (-1)])), (r1, .inr (0, [.ref j1, .int (nI L1.length)])), (j1, .inl (cI, 30, .inl f1)), (r2, .inr (0, [.ref j2, .int (nI L2.length)])), (j2, .inl (cI, 30, .inl f2)), (r3, .inr (0, [.ref j3, .int (nI L3.length)])), (j3, .inl (cI, 30, .inl f3)), (r4, .inr (0, [.ref j4, .int (nI L4.length)])), (j4, .inl (cI, 30, .inl f4))] := hD1
    have hS := hS1
    clear hP1 hD1 hS1
    have hstp : stp L4.length L3.length ≤ 24 := stp_le (by omega) (by omega)
    refine g_iadd hx hb dX1_serve_61 ?_
    refine g_mmin hx hb (hml.trans hl.1.symm) hown (hts (.methodLink RX1 67 Lib.Math.min.name) (by decide +kernel)) (hts (.static Lib.Math.min.name) (by decide +kernel)) (hts (.initialized "java/lang/Math") (by decide +kernel)) (hts (.code Lib.Math.min.name Lib.Math.min.code 2 (some .int)) (by decide +kernel)) (Nat.le_of_ble_eq_true rfl) (Nat.le_of_ble_eq_true rfl) (Nat.le_of_ble_eq_true rfl) (Nat.le_of_ble_eq_true rfl) (by omega) (by omega) dX1_serve_62 ?_
    obtain ⟨b1, eb⟩ : ∃ b1, b1 = min rc (bo + stp L4.length L3.length) := ⟨_, rfl⟩
    refine g_top (y := nI b1) (by rw [eb]) ?_
    have hb1 : b1 ≤ rc := by omega
    have hnb : Num rc b1 (L1, L2, L3, L4) := ⟨hn1, hn2, hb1, hn4, hn5, hn6⟩
    have es : sBord rc bo (L1, L2, L3, L4) jar = b1 := by rw [(serve3 hw0).1, eb]
    refine va_put (D := G) (ci := 1) (v := .int (nI b1)) (ty := .int) (C := RX1) (T := TX1) (N := 7) hx hb hts iX1_serve_X1 tyX1 tyX1_ok nmX1 hown hK hP hD hS 0 rfl rfl 5 (by decide) (hts (.fieldLink RX1 33 "GhostPantry$Shelves" "border" "I") (by decide +kernel)) (fun _ h9 => h9) rfl (by decide +kernel) rfl rfl (Nat.le_of_ble_eq_true rfl) dX1_serve_65 (fun H76 locs hP1 hD1 hS1 => ?_)
    clear hP hD hS
    have hP : va_P G vwCl [(sh, .inr (1, [.ref r1, .ref r2, .ref r3, .ref r4, .int (nI rc), .int (nI b1), .int (-1)])), (r1, .inr (0, [.ref j1, .int (nI L1.length)])), (j1, .inl (cI, 30, .inl f1)), (r2, .inr (0, [.ref j2, .int (nI L2.length)])), (j2, .inl (cI, 30, .inl f2)), (r3, .inr (0, [.ref j3, .int (nI L3.length)])), (j3, .inl (cI, 30, .inl f3)), (r4, .inr (0, [.ref j4, .int (nI L4.length)])), (j4, .inl (cI, 30, .inl f4))] H76 := hP1
    have hD : va_D A [(sh, .inr (1, [.ref r1, .ref r2, .ref r3, .ref r4, .int (nI rc), .int (nI b1), .int (-1)])), (r1, .inr (0, [.ref j1, .int (nI L1.length)])), (j1, .inl (cI, 30, .inl f1)), (r2, .inr (0, [.ref j2, .int (nI L2.length)])), (j2, .inl (cI, 30, .inl f2)), (r3, .inr (0, [.ref j3, .int (nI L3.length)])), (j3, .inl (cI, 30, .inl f3)), (r4, .inr (0, [.ref j4, .int (nI L4.length)])), (j4, .inl (cI, 30, .inl f4))] := hD1
    have hS := hS1
    clear hP1 hD1 hS1
    refine lv_aload_n hx hb dX1_serve_68 rfl (lv_at hl 2 rfl) ?_
    refine lv_iconst (v := (nI 0)) hx hb dX1_serve_69 (by decide +kernel) ?_
    have hPc := hP.sub (ws' := [(sh, .inr (1, [.ref r1, .ref r2, .ref r3, .ref r4, .int (nI rc), .int (nI b1), .int (-1)])), (r1, .inr (0, [.ref j1, .int (nI L1.length)])), (j1, .inl (cI, 30, .inl f1)), (r2, .inr (0, [.ref j2, .int (nI L2.length)])), (j2, .inl (cI, 30, .inl f2)), (r3, .inr (0, [.ref j3, .int (nI L3.length)])), (j3, .inl (cI, 30, .inl f3)), (r4, .inr (0, [.ref j4, .int (nI L4.length)])), (j4, .inl (cI, 30, .inl f4))]) [0, 1, 2, 3, 4, 5, 6, 7, 8] rfl
    have hDc := hD.sub (ws' := [(sh, .inr (1, [.ref r1, .ref r2, .ref r3, .ref r4, .int (nI rc), .int (nI b1), .int (-1)])), (r1, .inr (0, [.ref j1, .int (nI L1.length)])), (j1, .inl (cI, 30, .inl f1)), (r2, .inr (0, [.ref j2, .int (nI L2.length)])), (j2, .inl (cI, 30, .inl f2)), (r3, .inr (0, [.ref j3, .int (nI L3.length)])), (j3, .inl (cI, 30, .inl f3)), (r4, .inr (0, [.ref j4, .int (nI L4.length)])), (j4, .inl (cI, 30, .inl f4))]) [0, 1, 2, 3, 4, 5, 6, 7, 8] (by decide) rfl
    have hKc := hK.sub (tys' := [(cI, .int)]) [0] rfl
    have hFc := va_free (wc := [(sh, .inr (1, [.ref r1, .ref r2, .ref r3, .ref r4, .int (nI rc), .int (nI b1), .int (-1)])), (r1, .inr (0, [.ref j1, .int (nI L1.length)])), (j1, .inl (cI, 30, .inl f1)), (r2, .inr (0, [.ref j2, .int (nI L2.length)])), (j2, .inl (cI, 30, .inl f2)), (r3, .inr (0, [.ref j3, .int (nI L3.length)])), (j3, .inl (cI, 30, .inl f3)), (r4, .inr (0, [.ref j4, .int (nI L4.length)])), (j4, .inl (cI, 30, .inl f4))]) hD hS hA [0, 1, 2, 3, 4, 5, 6, 7, 8] rfl
    refine va_callv (va_runV (As := [.int (nI 0)]) (rest := []) ⟨hx, hb, hml, hown, hts⟩ (c_X1_makeRoom l G cI sh r1 r2 r3 r4 j1 j2 j3 j4 f1 f2 f3 f4 L1 L2 L3 L4 rc b1 (-1) hR1 hR2 hR3 hR4 hnb ⟨hj1, hj2, hj3, hj4⟩ false H76.size) (cwV 1 hts gX1_serve_X1_makeRoom rfl rfl rfl (by decide +kernel) ⟨Nat.le_of_ble_eq_true rfl, Nat.le_of_ble_eq_true rfl⟩) (g_preV (As := [.int (nI 0)]) hPc hKc hDc 0 rfl rfl) rfl rfl hl.1 rfl (lv_room (Nat.le_of_ble_eq_true rfl)) dX1_serve_70 ⟨(Nat.le_of_ble_eq_true rfl), (Nat.le_of_ble_eq_true rfl)⟩) hS (fun q _ h => hFc q h) hFc (fun u93 t H91 locs ht hvm hw hB hz1 hk1 hS1 => ?_)
    obtain ⟨⟨M77, M78, M79, M80⟩, x89⟩ := u93
    obtain ⟨f81, f82, f83, f84, hf85, hf86, hf87, hf88, hB⟩ := hB
    have hf85 : Rw f81 M77 := hf85
    have hf86 : Rw f82 M78 := hf86
    have hf87 : Rw f83 M79 := hf87
    have hf88 : Rw f84 M80 := hf88
    have hq90 : (M77, M78, M79, M80) = sRoom rc b1 false (L1, L2, L3, L4) := congrArg Prod.fst hw
    have hx90 : x89 = sRoomX rc b1 false (L1, L2, L3, L4) (-1) := congrArg Prod.snd hw
    have a90 := room_lt (ff := false) hnb
    rw [← hq90] at a90
    have b90 := room_sum (ff := false) hnb
    rw [← hq90] at b90
    dsimp only at a90 b90
    obtain ⟨b901, b902, b903, b904⟩ := b90
    obtain ⟨hP1, hD1⟩ := g_join (wc := [(sh, .inr (1, [.ref r1, .ref r2, .ref r3, .ref r4, .int (nI rc), .int (nI b1), .int (-1)])), (r1, .inr (0, [.ref j1, .int (nI L1.length)])), (j1, .inl (cI, 30, .inl f1)), (r2, .inr (0, [.ref j2, .int (nI L2.length)])), (j2, .inl (cI, 30, .inl f2)), (r3, .inr (0, [.ref j3, .int (nI L3.length)])), (j3, .inl (cI, 30, .inl f3)), (r4, .inr (0, [.ref j4, .int (nI L4.length)])), (j4, .inl (cI, 30, .inl f4))]) (wr := []) (w1 := [(sh, .inr (1, [.ref r1, .ref r2, .ref r3, .ref r4, .int (nI rc), .int (nI b1), .int x89])), (r1, .inr (0, [.ref j1, .int (nI M77.length)])), (j1, .inl (cI, 30, .inl f81)), (r2, .inr (0, [.ref j2, .int (nI M78.length)])), (j2, .inl (cI, 30, .inl f82)), (r3, .inr (0, [.ref j3, .int (nI M79.length)])), (j3, .inl (cI, 30, .inl f83)), (r4, .inr (0, [.ref j4, .int (nI M80.length)])), (j4, .inl (cI, 30, .inl f84))]) hP hD [0, 1, 2, 3, 4, 5, 6, 7, 8] [] rfl rfl (by decide) (by decide) ht hk1 hFc hB
    clear hB hk1 hz1 hvm ht hPc hDc hKc hFc
    clear hP hD hS
    have hP : va_P G vwCl [(sh, .inr (1, [.ref r1, .ref r2, .ref r3, .ref r4, .int (nI rc), .int (nI b1), .int x89])), (r1, .inr (0, [.ref j1, .int (nI M77.length)])), (j1, .inl (cI, 30, .inl f81)), (r2, .inr (0, [.ref j2, .int (nI M78.length)])), (j2, .inl (cI, 30, .inl f82)), (r3, .inr (0, [.ref j3, .int (nI M79.length)])), (j3, .inl (cI, 30, .inl f83)), (r4, .inr (0, [.ref j4, .int (nI M80.length)])), (j4, .inl (cI, 30, .inl f84))] H91 := hP1
    have hD : va_D A [(sh, .inr (1, [.ref r1, .ref r2, .ref r3, .ref r4, .int (nI rc), .int (nI b1), .int x89])), (r1, .inr (0, [.ref j1, .int (nI M77.length)])), (j1, .inl (cI, 30, .inl f81)), (r2, .inr (0, [.ref j2, .int (nI M78.length)])), (j2, .inl (cI, 30, .inl f82)), (r3, .inr (0, [.ref j3, .int (nI M79.length)])), (j3, .inl (cI, 30, .inl f83)), (r4, .inr (0, [.ref j4, .int (nI M80.length)])), (j4, .inl (cI, 30, .inl f84))] := hD1
    have hS := hS1
    clear hP1 hD1 hS1
    refine lv_goto (tgt := 111) hx hb dX1_serve_73 (by decide) ?_
    refine lv_aload_n hx hb dX1_serve_111 rfl (lv_at hl 0 rfl) ?_
    refine lv_aload_n hx hb dX1_serve_112 rfl (lv_at hl 0 rfl) ?_
    refine lv_iload_n hx hb dX1_serve_113 rfl (lv_at hl 3 rfl) ?_
    have hPc := hP.sub (ws' := [(r3, .inr (0, [.ref j3, .int (nI M79.length)])), (j3, .inl (cI, 30, .inl f83))]) [5, 6] rfl
    have hDc := hD.sub (ws' := [(r3, .inr (0, [.ref j3, .int (nI M79.length)])), (j3, .inl (cI, 30, .inl f83))]) [5, 6] (by decide) rfl
    have hKc := hK.sub (tys' := [(cI, .int)]) [0] rfl
    have hFc := va_free (wc := [(r3, .inr (0, [.ref j3, .int (nI M79.length)])), (j3, .inl (cI, 30, .inl f83))]) hD hS hA [5, 6] rfl
    refine va_calli (va_runV (As := [.int jar]) (rest := [.ref r3]) ⟨hx, hb, hml, hown, hts⟩ (c_X0_placeOf l G cI r3 j3 f83 M79 hf87 (by omega) jar H91.size) (cwV 1 hts gX1_serve_X0_placeOf rfl rfl rfl (by decide +kernel) ⟨Nat.le_of_ble_eq_true rfl, Nat.le_of_ble_eq_true rfl⟩) (g_preV (As := [.int jar]) hPc hKc hDc 0 rfl rfl) rfl rfl hl.1 rfl (lv_room (Nat.le_of_ble_eq_true rfl)) dX1_serve_114 ⟨(Nat.le_of_ble_eq_true rfl), (Nat.le_of_ble_eq_true rfl)⟩) hS (fun q _ h => hFc q h) hFc (fun r95 u96 t H94 locs ht hvm hw hB hz1 hk1 hS1 => ?_)
    subst hw
    obtain ⟨hP1, hD1⟩ := g_join (wc := [(r3, .inr (0, [.ref j3, .int (nI M79.length)])), (j3, .inl (cI, 30, .inl f83))]) (wr := [(sh, .inr (1, [.ref r1, .ref r2, .ref r3, .ref r4, .int (nI rc), .int (nI b1), .int x89])), (r1, .inr (0, [.ref j1, .int (nI M77.length)])), (j1, .inl (cI, 30, .inl f81)), (r2, .inr (0, [.ref j2, .int (nI M78.length)])), (j2, .inl (cI, 30, .inl f82)), (r4, .inr (0, [.ref j4, .int (nI M80.length)])), (j4, .inl (cI, 30, .inl f84))]) (w1 := [(r3, .inr (0, [.ref j3, .int (nI M79.length)])), (j3, .inl (cI, 30, .inl f83))]) hP hD [5, 6] [0, 1, 2, 3, 4, 7, 8] rfl rfl (by decide) (by decide) ht hk1 hFc hB
    clear hB hk1 hz1 hvm ht hPc hDc hKc hFc
    clear hP hD hS
    have hP : va_P G vwCl [(sh, .inr (1, [.ref r1, .ref r2, .ref r3, .ref r4, .int (nI rc), .int (nI b1), .int x89])), (r1, .inr (0, [.ref j1, .int (nI M77.length)])), (j1, .inl (cI, 30, .inl f81)), (r2, .inr (0, [.ref j2, .int (nI M78.length)])), (j2, .inl (cI, 30, .inl f82)), (r4, .inr (0, [.ref j4, .int (nI M80.length)])), (j4, .inl (cI, 30, .inl f84)), (r3, .inr (0, [.ref j3, .int (nI M79.length)])), (j3, .inl (cI, 30, .inl f83))] H94 := hP1
    have hD : va_D A [(sh, .inr (1, [.ref r1, .ref r2, .ref r3, .ref r4, .int (nI rc), .int (nI b1), .int x89])), (r1, .inr (0, [.ref j1, .int (nI M77.length)])), (j1, .inl (cI, 30, .inl f81)), (r2, .inr (0, [.ref j2, .int (nI M78.length)])), (j2, .inl (cI, 30, .inl f82)), (r4, .inr (0, [.ref j4, .int (nI M80.length)])), (j4, .inl (cI, 30, .inl f84)), (r3, .inr (0, [.ref j3, .int (nI M79.length)])), (j3, .inl (cI, 30, .inl f83))] := hD1
    have hS := hS1
    clear hP1 hD1 hS1
    have mj : jar ∈ M79 := by
      have z := room_mem3 (ff := false) hnb mj
      rw [← hq90] at z
      exact z
    have mi := idx_lt mj
    have ml : (M79.eraseIdx (M79.idxOf jar)).length = M79.length - 1 := List.length_eraseIdx_of_lt mi
    refine g_top (y := nI (M79.idxOf jar)) (pos_idx mj) ?_
    have hPc := hP.sub (ws' := [(r3, .inr (0, [.ref j3, .int (nI M79.length)])), (j3, .inl (cI, 30, .inl f83))]) [7, 8] rfl
    have hDc := hD.sub (ws' := [(r3, .inr (0, [.ref j3, .int (nI M79.length)])), (j3, .inl (cI, 30, .inl f83))]) [7, 8] (by decide) rfl
    have hKc := hK.sub (tys' := [(cI, .int)]) [0] rfl
    have hFc := va_free (wc := [(r3, .inr (0, [.ref j3, .int (nI M79.length)])), (j3, .inl (cI, 30, .inl f83))]) hD hS hA [7, 8] rfl
    refine va_calli (va_runV (As := [.int (nI (M79.idxOf jar))]) (rest := []) ⟨hx, hb, hml, hown, hts⟩ (c_X0_takeAt l G cI r3 j3 f83 M79 hf87 (by omega) (M79.idxOf jar) (by first | omega | (simp only [List.length_cons, List.length_dropLast] at *; omega)) H94.size) (cwV 1 hts gX1_serve_X0_takeAt rfl rfl rfl (by decide +kernel) ⟨Nat.le_of_ble_eq_true rfl, Nat.le_of_ble_eq_true rfl⟩) (g_preV (As := [.int (nI (M79.idxOf jar))]) hPc hKc hDc 0 rfl rfl) rfl rfl hl.1 rfl (lv_room (Nat.le_of_ble_eq_true rfl)) dX1_serve_117 ⟨(Nat.le_of_ble_eq_true rfl), (Nat.le_of_ble_eq_true rfl)⟩) hS (fun q _ h => hFc q h) hFc (fun r100 u101 t H99 locs ht hvm hw hB hz1 hk1 hS1 => ?_)
    subst hw
    obtain ⟨f97, hf98, hB⟩ := hB
    obtain ⟨hP1, hD1⟩ := g_join (wc := [(r3, .inr (0, [.ref j3, .int (nI M79.length)])), (j3, .inl (cI, 30, .inl f83))]) (wr := [(sh, .inr (1, [.ref r1, .ref r2, .ref r3, .ref r4, .int (nI rc), .int (nI b1), .int x89])), (r1, .inr (0, [.ref j1, .int (nI M77.length)])), (j1, .inl (cI, 30, .inl f81)), (r2, .inr (0, [.ref j2, .int (nI M78.length)])), (j2, .inl (cI, 30, .inl f82)), (r4, .inr (0, [.ref j4, .int (nI M80.length)])), (j4, .inl (cI, 30, .inl f84))]) (w1 := [(r3, .inr (0, [.ref j3, .int (nI ((M79.eraseIdx (M79.idxOf jar)).length))])), (j3, .inl (cI, 30, .inl f97))]) hP hD [7, 8] [0, 1, 2, 3, 4, 5, 6] rfl rfl (by decide) (by decide) ht hk1 hFc hB
    clear hB hk1 hz1 hvm ht hPc hDc hKc hFc
    clear hP hD hS
    have hP : va_P G vwCl [(sh, .inr (1, [.ref r1, .ref r2, .ref r3, .ref r4, .int (nI rc), .int (nI b1), .int x89])), (r1, .inr (0, [.ref j1, .int (nI M77.length)])), (j1, .inl (cI, 30, .inl f81)), (r2, .inr (0, [.ref j2, .int (nI M78.length)])), (j2, .inl (cI, 30, .inl f82)), (r4, .inr (0, [.ref j4, .int (nI M80.length)])), (j4, .inl (cI, 30, .inl f84)), (r3, .inr (0, [.ref j3, .int (nI ((M79.eraseIdx (M79.idxOf jar)).length))])), (j3, .inl (cI, 30, .inl f97))] H99 := hP1
    have hD : va_D A [(sh, .inr (1, [.ref r1, .ref r2, .ref r3, .ref r4, .int (nI rc), .int (nI b1), .int x89])), (r1, .inr (0, [.ref j1, .int (nI M77.length)])), (j1, .inl (cI, 30, .inl f81)), (r2, .inr (0, [.ref j2, .int (nI M78.length)])), (j2, .inl (cI, 30, .inl f82)), (r4, .inr (0, [.ref j4, .int (nI M80.length)])), (j4, .inl (cI, 30, .inl f84)), (r3, .inr (0, [.ref j3, .int (nI ((M79.eraseIdx (M79.idxOf jar)).length))])), (j3, .inl (cI, 30, .inl f97))] := hD1
    have hS := hS1
    clear hP1 hD1 hS1
    refine lv_pop hx hb dX1_serve_120 rfl ?_
    refine lv_aload_n hx hb dX1_serve_121 rfl (lv_at hl 2 rfl) ?_
    refine va_get (D := G) (ci := 1) (v := .ref r2) (C := RX1) (T := TX1) (N := 7) hx hb hts iX1_serve_X1 hown hK hP 0 rfl rfl 1 (by decide) (hts (.fieldLink RX1 20 "GhostPantry$Shelves" "frequent" "LGhostPantry$Row;") (by decide +kernel)) (fun _ h9 => h9) rfl dX1_serve_122 ?_
    refine lv_iload_n hx hb dX1_serve_125 rfl (lv_at hl 3 rfl) ?_
    have hPc := hP.sub (ws' := [(r2, .inr (0, [.ref j2, .int (nI M78.length)])), (j2, .inl (cI, 30, .inl f82))]) [3, 4] rfl
    have hDc := hD.sub (ws' := [(r2, .inr (0, [.ref j2, .int (nI M78.length)])), (j2, .inl (cI, 30, .inl f82))]) [3, 4] (by decide) rfl
    have hKc := hK.sub (tys' := [(cI, .int)]) [0] rfl
    have hFc := va_free (wc := [(r2, .inr (0, [.ref j2, .int (nI M78.length)])), (j2, .inl (cI, 30, .inl f82))]) hD hS hA [3, 4] rfl
    refine va_callv (va_runV (As := [.int jar]) (rest := []) ⟨hx, hb, hml, hown, hts⟩ (c_X0_putFirst l G cI r2 j2 f82 M78 hf86 (by omega) jar (by first | omega | (simp only [List.length_cons, List.length_dropLast] at *; omega)) H99.size) (cwV 1 hts gX1_serve_X0_putFirst rfl rfl rfl (by decide +kernel) ⟨Nat.le_of_ble_eq_true rfl, Nat.le_of_ble_eq_true rfl⟩) (g_preV (As := [.int jar]) hPc hKc hDc 0 rfl rfl) rfl rfl hl.1 rfl (lv_room (Nat.le_of_ble_eq_true rfl)) dX1_serve_126 ⟨(Nat.le_of_ble_eq_true rfl), (Nat.le_of_ble_eq_true rfl)⟩) hS (fun q _ h => hFc q h) hFc (fun u106 t H104 locs ht hvm hw hB hz1 hk1 hS1 => ?_)
    obtain ⟨f102, hf103, hB⟩ := hB
    obtain ⟨hP1, hD1⟩ := g_join (wc := [(r2, .inr (0, [.ref j2, .int (nI M78.length)])), (j2, .inl (cI, 30, .inl f82))]) (wr := [(sh, .inr (1, [.ref r1, .ref r2, .ref r3, .ref r4, .int (nI rc), .int (nI b1), .int x89])), (r1, .inr (0, [.ref j1, .int (nI M77.length)])), (j1, .inl (cI, 30, .inl f81)), (r4, .inr (0, [.ref j4, .int (nI M80.length)])), (j4, .inl (cI, 30, .inl f84)), (r3, .inr (0, [.ref j3, .int (nI ((M79.eraseIdx (M79.idxOf jar)).length))])), (j3, .inl (cI, 30, .inl f97))]) (w1 := [(r2, .inr (0, [.ref j2, .int (nI ((jar :: M78).length))])), (j2, .inl (cI, 30, .inl f102))]) hP hD [3, 4] [0, 1, 2, 5, 6, 7, 8] rfl rfl (by decide) (by decide) ht hk1 hFc hB
    clear hB hk1 hz1 hvm ht hPc hDc hKc hFc
    clear hP hD hS
    have hP : va_P G vwCl [(sh, .inr (1, [.ref r1, .ref r2, .ref r3, .ref r4, .int (nI rc), .int (nI b1), .int x89])), (r1, .inr (0, [.ref j1, .int (nI M77.length)])), (j1, .inl (cI, 30, .inl f81)), (r4, .inr (0, [.ref j4, .int (nI M80.length)])), (j4, .inl (cI, 30, .inl f84)), (r3, .inr (0, [.ref j3, .int (nI ((M79.eraseIdx (M79.idxOf jar)).length))])), (j3, .inl (cI, 30, .inl f97)), (r2, .inr (0, [.ref j2, .int (nI ((jar :: M78).length))])), (j2, .inl (cI, 30, .inl f102))] H104 := hP1
    have hD : va_D A [(sh, .inr (1, [.ref r1, .ref r2, .ref r3, .ref r4, .int (nI rc), .int (nI b1), .int x89])), (r1, .inr (0, [.ref j1, .int (nI M77.length)])), (j1, .inl (cI, 30, .inl f81)), (r4, .inr (0, [.ref j4, .int (nI M80.length)])), (j4, .inl (cI, 30, .inl f84)), (r3, .inr (0, [.ref j3, .int (nI ((M79.eraseIdx (M79.idxOf jar)).length))])), (j3, .inl (cI, 30, .inl f97)), (r2, .inr (0, [.ref j2, .int (nI ((jar :: M78).length))])), (j2, .inl (cI, 30, .inl f102))] := hD1
    have hS := hS1
    clear hP1 hD1 hS1
    refine lv_iload_n hx hb dX1_serve_129 rfl (lv_at hl 1 rfl) ?_
    have hP9 := hP.sub (ws' := [(sh, .inr (1, [.ref r1, .ref r2, .ref r3, .ref r4, .int (nI rc), .int (nI b1), .int x89])), (r1, .inr (0, [.ref j1, .int (nI M77.length)])), (j1, .inl (cI, 30, .inl f81)), (r2, .inr (0, [.ref j2, .int (nI ((jar :: M78).length))])), (j2, .inl (cI, 30, .inl f102)), (r3, .inr (0, [.ref j3, .int (nI ((M79.eraseIdx (M79.idxOf jar)).length))])), (j3, .inl (cI, 30, .inl f97)), (r4, .inr (0, [.ref j4, .int (nI M80.length)])), (j4, .inl (cI, 30, .inl f84))]) [0, 1, 2, 7, 8, 5, 6, 3, 4] rfl
    have hD9 := hD.sub (ws' := [(sh, .inr (1, [.ref r1, .ref r2, .ref r3, .ref r4, .int (nI rc), .int (nI b1), .int x89])), (r1, .inr (0, [.ref j1, .int (nI M77.length)])), (j1, .inl (cI, 30, .inl f81)), (r2, .inr (0, [.ref j2, .int (nI ((jar :: M78).length))])), (j2, .inl (cI, 30, .inl f102)), (r3, .inr (0, [.ref j3, .int (nI ((M79.eraseIdx (M79.idxOf jar)).length))])), (j3, .inl (cI, 30, .inl f97)), (r4, .inr (0, [.ref j4, .int (nI M80.length)])), (j4, .inl (cI, 30, .inl f84))]) [0, 1, 2, 7, 8, 5, 6, 3, 4] (by decide) rfl
    exact W.iret (v := (nI 3)) hx hb hr (fun t ht hW => ⟨⟨(nI 3), ((M77, (jar :: M78), (M79.eraseIdx (M79.idxOf jar)), M80), b1, x89), rfl, ⟨(by rw [hw0]), (by rw [(serve3 hw0).2.1, (serve3 hw0).2.2, es, ← hq90, ← hx90]; rfl)⟩, _, _, _, _, hf85, hf103, hf98, hf88, g_at hP9 hK hD9 ht hW⟩, hS.F ht⟩) hS.2.2 dX1_serve_130
  · refine g_top (y := nI 4) (by rw [hw0]) ?_
    have mj : jar ∈ L4 := mj
    have mp := List.length_pos_of_mem mj
    refine lv_istore_n (lv' := [(2, .int (nI 4)), (0, .ref sh), (1, .int jar)]) hx hb dX1_serve_5 rfl hl (by decide) rfl (fun ls hl => ?_)
    refine lv_aload_n hx hb dX1_serve_6 rfl (lv_at hl 1 rfl) ?_
    refine lv_iload_n hx hb dX1_serve_7 rfl (lv_at hl 0 rfl) ?_
    have hPc := hP.sub (ws' := [(sh, .inr (1, [.ref r1, .ref r2, .ref r3, .ref r4, .int (nI rc), .int (nI bo), .int lv])), (r1, .inr (0, [.ref j1, .int (nI L1.length)])), (j1, .inl (cI, 30, .inl f1)), (r2, .inr (0, [.ref j2, .int (nI L2.length)])), (j2, .inl (cI, 30, .inl f2)), (r3, .inr (0, [.ref j3, .int (nI L3.length)])), (j3, .inl (cI, 30, .inl f3)), (r4, .inr (0, [.ref j4, .int (nI L4.length)])), (j4, .inl (cI, 30, .inl f4))]) [0, 1, 2, 3, 4, 5, 6, 7, 8] rfl
    have hDc := hD.sub (ws' := [(sh, .inr (1, [.ref r1, .ref r2, .ref r3, .ref r4, .int (nI rc), .int (nI bo), .int lv])), (r1, .inr (0, [.ref j1, .int (nI L1.length)])), (j1, .inl (cI, 30, .inl f1)), (r2, .inr (0, [.ref j2, .int (nI L2.length)])), (j2, .inl (cI, 30, .inl f2)), (r3, .inr (0, [.ref j3, .int (nI L3.length)])), (j3, .inl (cI, 30, .inl f3)), (r4, .inr (0, [.ref j4, .int (nI L4.length)])), (j4, .inl (cI, 30, .inl f4))]) [0, 1, 2, 3, 4, 5, 6, 7, 8] (by decide) rfl
    have hKc := hK.sub (tys' := [(cI, .int)]) [0] rfl
    have hFc := va_free (wc := [(sh, .inr (1, [.ref r1, .ref r2, .ref r3, .ref r4, .int (nI rc), .int (nI bo), .int lv])), (r1, .inr (0, [.ref j1, .int (nI L1.length)])), (j1, .inl (cI, 30, .inl f1)), (r2, .inr (0, [.ref j2, .int (nI L2.length)])), (j2, .inl (cI, 30, .inl f2)), (r3, .inr (0, [.ref j3, .int (nI L3.length)])), (j3, .inl (cI, 30, .inl f3)), (r4, .inr (0, [.ref j4, .int (nI L4.length)])), (j4, .inl (cI, 30, .inl f4))]) hD hS hA [0, 1, 2, 3, 4, 5, 6, 7, 8] rfl
    refine va_callq (va_runV (As := [.int (nI 4)]) (rest := []) ⟨hx, hb, hml, hown, hts⟩ (c_X1_rowAt_4 l G cI sh r1 r2 r3 r4 j1 j2 j3 j4 f1 f2 f3 f4 L1 L2 L3 L4 rc bo lv hR1 hR2 hR3 hR4  H1.size) (cwV 1 hts gX1_serve_X1_rowAt rfl rfl rfl (by decide +kernel) ⟨Nat.le_of_ble_eq_true rfl, Nat.le_of_ble_eq_true rfl⟩) (g_preV (As := [.int (nI 4)]) hPc hKc hDc 0 rfl rfl) rfl rfl hl.1 rfl (lv_room (Nat.le_of_ble_eq_true rfl)) dX1_serve_8 ⟨(Nat.le_of_ble_eq_true rfl), (Nat.le_of_ble_eq_true rfl)⟩) hS (fun q _ h => hFc q h) hFc (fun r108 u109 t H107 locs ht hvm hw hB hz1 hk1 hS1 => ?_)
    subst hw
    obtain ⟨hP1, hD1⟩ := g_join (wc := [(sh, .inr (1, [.ref r1, .ref r2, .ref r3, .ref r4, .int (nI rc), .int (nI bo), .int lv])), (r1, .inr (0, [.ref j1, .int (nI L1.length)])), (j1, .inl (cI, 30, .inl f1)), (r2, .inr (0, [.ref j2, .int (nI L2.length)])), (j2, .inl (cI, 30, .inl f2)), (r3, .inr (0, [.ref j3, .int (nI L3.length)])), (j3, .inl (cI, 30, .inl f3)), (r4, .inr (0, [.ref j4, .int (nI L4.length)])), (j4, .inl (cI, 30, .inl f4))]) (wr := []) (w1 := [(sh, .inr (1, [.ref r1, .ref r2, .ref r3, .ref r4, .int (nI rc), .int (nI bo), .int lv])), (r1, .inr (0, [.ref j1, .int (nI L1.length)])), (j1, .inl (cI, 30, .inl f1)), (r2, .inr (0, [.ref j2, .int (nI L2.length)])), (j2, .inl (cI, 30, .inl f2)), (r3, .inr (0, [.ref j3, .int (nI L3.length)])), (j3, .inl (cI, 30, .inl f3)), (r4, .inr (0, [.ref j4, .int (nI L4.length)])), (j4, .inl (cI, 30, .inl f4))]) hP hD [0, 1, 2, 3, 4, 5, 6, 7, 8] [] rfl rfl (by decide) (by decide) ht hk1 hFc hB
    clear hB hk1 hz1 hvm ht hPc hDc hKc hFc
    clear hP hD hS
    have hP : va_P G vwCl [(sh, .inr (1, [.ref r1, .ref r2, .ref r3, .ref r4, .int (nI rc), .int (nI bo), .int lv])), (r1, .inr (0, [.ref j1, .int (nI L1.length)])), (j1, .inl (cI, 30, .inl f1)), (r2, .inr (0, [.ref j2, .int (nI L2.length)])), (j2, .inl (cI, 30, .inl f2)), (r3, .inr (0, [.ref j3, .int (nI L3.length)])), (j3, .inl (cI, 30, .inl f3)), (r4, .inr (0, [.ref j4, .int (nI L4.length)])), (j4, .inl (cI, 30, .inl f4))] H107 := hP1
    have hD : va_D A [(sh, .inr (1, [.ref r1, .ref r2, .ref r3, .ref r4, .int (nI rc), .int (nI bo), .int lv])), (r1, .inr (0, [.ref j1, .int (nI L1.length)])), (j1, .inl (cI, 30, .inl f1)), (r2, .inr (0, [.ref j2, .int (nI L2.length)])), (j2, .inl (cI, 30, .inl f2)), (r3, .inr (0, [.ref j3, .int (nI L3.length)])), (j3, .inl (cI, 30, .inl f3)), (r4, .inr (0, [.ref j4, .int (nI L4.length)])), (j4, .inl (cI, 30, .inl f4))] := hD1
    have hS := hS1
    clear hP1 hD1 hS1
    refine W.eq (g2 := F0 m 11 ls [.ref r4]) rfl ?_
    refine lv_astore_n (lv' := [(3, .ref r4), (2, .int (nI 4)), (0, .ref sh), (1, .int jar)]) hx hb dX1_serve_11 rfl hl (by decide) rfl (fun ls hl => ?_)
    refine lv_aload_n hx hb dX1_serve_12 rfl (lv_at hl 2 rfl) ?_
    refine lv_iconst (v := (-1)) hx hb dX1_serve_13 (by decide +kernel) ?_
    refine va_put (D := G) (ci := 1) (v := .int (-1)) (ty := .int) (C := RX1) (T := TX1) (N := 7) hx hb hts iX1_serve_X1 tyX1 tyX1_ok nmX1 hown hK hP hD hS 0 rfl rfl 6 (by decide) (hts (.fieldLink RX1 36 "GhostPantry$Shelves" "leaver" "I") (by decide +kernel)) (fun _ h9 => h9) rfl (by decide +kernel) rfl rfl (Nat.le_of_ble_eq_true rfl) dX1_serve_14 (fun H110 locs hP1 hD1 hS1 => ?_)
    clear hP hD hS
    have hP : va_P G vwCl [(sh, .inr (1, [.ref r1, .ref r2, .ref r3, .ref r4, .int (nI rc), .int (nI bo), .int (-1)])), (r1, .inr (0, [.ref j1, .int (nI L1.length)])), (j1, .inl (cI, 30, .inl f1)), (r2, .inr (0, [.ref j2, .int (nI L2.length)])), (j2, .inl (cI, 30, .inl f2)), (r3, .inr (0, [.ref j3, .int (nI L3.length)])), (j3, .inl (cI, 30, .inl f3)), (r4, .inr (0, [.ref j4, .int (nI L4.length)])), (j4, .inl (cI, 30, .inl f4))] H110 := hP1
    have hD : va_D A [(sh, .inr (1, [.ref r1, .ref r2, .ref r3, .ref r4, .int (nI rc), .int (nI bo), .int (-1)])), (r1, .inr (0, [.ref j1, .int (nI L1.length)])), (j1, .inl (cI, 30, .inl f1)), (r2, .inr (0, [.ref j2, .int (nI L2.length)])), (j2, .inl (cI, 30, .inl f2)), (r3, .inr (0, [.ref j3, .int (nI L3.length)])), (j3, .inl (cI, 30, .inl f3)), (r4, .inr (0, [.ref j4, .int (nI L4.length)])), (j4, .inl (cI, 30, .inl f4))] := hD1
    have hS := hS1
    clear hP1 hD1 hS1
    refine lv_aload_n hx hb dX1_serve_17 rfl (lv_at hl 0 rfl) ?_
    refine lv_ifnonnull (tgt := 35) hx hb dX1_serve_18 (by decide) ?_
    refine lv_iload_n hx hb dX1_serve_35 rfl (lv_at hl 1 rfl) ?_
    refine lv_iconst (v := (nI 3)) hx hb dX1_serve_36 (by decide +kernel) ?_
    refine g_icmp_ne (tgt := 76) hx hb dX1_serve_37 (by decide) (by decide) (by decide) (fun c111 => ?_) (fun c111 => False.elim (by omega))
    refine lv_iload_n hx hb dX1_serve_76 rfl (lv_at hl 1 rfl) ?_
    refine lv_iconst (v := (nI 4)) hx hb dX1_serve_77 (by decide +kernel) ?_
    refine g_icmp_ne (tgt := 111) hx hb dX1_serve_78 (by decide) (by decide) (by decide) (fun c112 => False.elim (by omega)) (fun c112 => ?_)
    refine lv_aload_n hx hb dX1_serve_81 rfl (lv_at hl 2 rfl) ?_
    refine lv_iconst (v := (nI 0)) hx hb dX1_serve_82 (by decide +kernel) ?_
    refine lv_aload_n hx hb dX1_serve_83 rfl (lv_at hl 2 rfl) ?_
    refine va_get (D := G) (ci := 1) (v := .int (nI bo)) (C := RX1) (T := TX1) (N := 7) hx hb hts iX1_serve_X1 hown hK hP 0 rfl rfl 5 (by decide) (hts (.fieldLink RX1 33 "GhostPantry$Shelves" "border" "I") (by decide +kernel)) (fun _ h9 => h9) rfl dX1_serve_84 ?_
    refine lv_aload_n hx hb dX1_serve_87 rfl (lv_at hl 2 rfl) ?_
    refine lv_aload_n hx hb dX1_serve_88 rfl (lv_at hl 2 rfl) ?_
    refine va_get (D := G) (ci := 1) (v := .ref r3) (C := RX1) (T := TX1) (N := 7) hx hb hts iX1_serve_X1 hown hK hP 0 rfl rfl 2 (by decide) (hts (.fieldLink RX1 23 "GhostPantry$Shelves" "recentGhosts" "LGhostPantry$Row;") (by decide +kernel)) (fun _ h9 => h9) rfl dX1_serve_89 ?_
    refine lv_aload_n hx hb dX1_serve_92 rfl (lv_at hl 2 rfl) ?_
    refine va_get (D := G) (ci := 1) (v := .ref r4) (C := RX1) (T := TX1) (N := 7) hx hb hts iX1_serve_X1 hown hK hP 0 rfl rfl 3 (by decide) (hts (.fieldLink RX1 26 "GhostPantry$Shelves" "frequentGhosts" "LGhostPantry$Row;") (by decide +kernel)) (fun _ h9 => h9) rfl dX1_serve_93 ?_
    have hPc := hP.sub (ws' := [(sh, .inr (1, [.ref r1, .ref r2, .ref r3, .ref r4, .int (nI rc), .int (nI bo), .int (-1)])), (r1, .inr (0, [.ref j1, .int (nI L1.length)])), (j1, .inl (cI, 30, .inl f1)), (r2, .inr (0, [.ref j2, .int (nI L2.length)])), (j2, .inl (cI, 30, .inl f2)), (r3, .inr (0, [.ref j3, .int (nI L3.length)])), (j3, .inl (cI, 30, .inl f3)), (r4, .inr (0, [.ref j4, .int (nI L4.length)])), (j4, .inl (cI, 30, .inl f4))]) [0, 1, 2, 3, 4, 5, 6, 7, 8] rfl
    have hDc := hD.sub (ws' := [(sh, .inr (1, [.ref r1, .ref r2, .ref r3, .ref r4, .int (nI rc), .int (nI bo), .int (-1)])), (r1, .inr (0, [.ref j1, .int (nI L1.length)])), (j1, .inl (cI, 30, .inl f1)), (r2, .inr (0, [.ref j2, .int (nI L2.length)])), (j2, .inl (cI, 30, .inl f2)), (r3, .inr (0, [.ref j3, .int (nI L3.length)])), (j3, .inl (cI, 30, .inl f3)), (r4, .inr (0, [.ref j4, .int (nI L4.length)])), (j4, .inl (cI, 30, .inl f4))]) [0, 1, 2, 3, 4, 5, 6, 7, 8] (by decide) rfl
    have hKc := hK.sub (tys' := [(cI, .int)]) [0] rfl
    have hFc := va_free (wc := [(sh, .inr (1, [.ref r1, .ref r2, .ref r3, .ref r4, .int (nI rc), .int (nI bo), .int (-1)])), (r1, .inr (0, [.ref j1, .int (nI L1.length)])), (j1, .inl (cI, 30, .inl f1)), (r2, .inr (0, [.ref j2, .int (nI L2.length)])), (j2, .inl (cI, 30, .inl f2)), (r3, .inr (0, [.ref j3, .int (nI L3.length)])), (j3, .inl (cI, 30, .inl f3)), (r4, .inr (0, [.ref j4, .int (nI L4.length)])), (j4, .inl (cI, 30, .inl f4))]) hD hS hA [0, 1, 2, 3, 4, 5, 6, 7, 8] rfl
    refine va_calli (va_runV (As := [.ref r3, .ref r4]) (rest := [.int (nI bo), .int (nI 0), .ref sh]) ⟨hx, hb, hml, hown, hts⟩ (c_X1_step_3 l G cI sh r1 r2 r3 r4 j1 j2 j3 j4 f1 f2 f3 f4 L1 L2 L3 L4 rc bo (-1) hR1 hR2 hR3 hR4 (by omega) (by omega) (by omega) H110.size) (cwV 2 hts gX1_serve_X1_step rfl rfl rfl (by decide +kernel) ⟨Nat.le_of_ble_eq_true rfl, Nat.le_of_ble_eq_true rfl⟩) (g_preV (As := [.ref r3, .ref r4]) hPc hKc hDc 0 rfl rfl) rfl rfl hl.1 rfl (lv_room (Nat.le_of_ble_eq_true rfl)) dX1_serve_96 ⟨(Nat.le_of_ble_eq_true rfl), (Nat.le_of_ble_eq_true rfl)⟩) hS (fun q _ h => hFc q h) hFc (fun r114 u115 t H113 locs ht hvm hw hB hz1 hk1 hS1 => ?_)
    subst hw
    obtain ⟨hP1, hD1⟩ := g_join (wc := [(sh, .inr (1, [.ref r1, .ref r2, .ref r3, .ref r4, .int (nI rc), .int (nI bo), .int (-1)])), (r1, .inr (0, [.ref j1, .int (nI L1.length)])), (j1, .inl (cI, 30, .inl f1)), (r2, .inr (0, [.ref j2, .int (nI L2.length)])), (j2, .inl (cI, 30, .inl f2)), (r3, .inr (0, [.ref j3, .int (nI L3.length)])), (j3, .inl (cI, 30, .inl f3)), (r4, .inr (0, [.ref j4, .int (nI L4.length)])), (j4, .inl (cI, 30, .inl f4))]) (wr := []) (w1 := [(sh, .inr (1, [.ref r1, .ref r2, .ref r3, .ref r4, .int (nI rc), .int (nI bo), .int (-1)])), (r1, .inr (0, [.ref j1, .int (nI L1.length)])), (j1, .inl (cI, 30, .inl f1)), (r2, .inr (0, [.ref j2, .int (nI L2.length)])), (j2, .inl (cI, 30, .inl f2)), (r3, .inr (0, [.ref j3, .int (nI L3.length)])), (j3, .inl (cI, 30, .inl f3)), (r4, .inr (0, [.ref j4, .int (nI L4.length)])), (j4, .inl (cI, 30, .inl f4))]) hP hD [0, 1, 2, 3, 4, 5, 6, 7, 8] [] rfl rfl (by decide) (by decide) ht hk1 hFc hB
    clear hB hk1 hz1 hvm ht hPc hDc hKc hFc
    clear hP hD hS
    have hP : va_P G vwCl [(sh, .inr (1, [.ref r1, .ref r2, .ref r3, .ref r4, .int (nI rc), .int (nI bo), .int (-1)])), (r1, .inr (0, [.ref j1, .int (nI L1.length)])), (j1, .inl (cI, 30, .inl f1)), (r2, .inr (0, [.ref j2, .int (nI L2.length)])), (j2, .inl (cI, 30, .inl f2)), (r3, .inr (0, [.ref j3, .int (nI L3.length)])), (j3, .inl (cI, 30, .inl f3)), (r4, .inr (0, [.ref j4, .int (nI L4.length)])), (j4, .inl (cI, 30, .inl f4))] H113 := hP1
    have hD : va_D A [(sh, .inr (1, [.ref r1, .ref r2, .ref r3, .ref r4, .int (nI rc), .int (nI bo), .int (-1)])), (r1, .inr (0, [.ref j1, .int (nI L1.length)])), (j1, .inl (cI, 30, .inl f1)), (r2, .inr (0, [.ref j2, .int (nI L2.length)])), (j2, .inl (cI, 30, .inl f2)), (r3, .inr (0, [.ref j3, .int (nI L3.length)])), (j3, .inl (cI, 30, .inl f3)), (r4, .inr (0, [.ref j4, .int (nI L4.length)])), (j4, .inl (cI, 30, .inl f4))] := hD1
    have hS := hS1
    clear hP1 hD1 hS1
    have hstp : stp L3.length L4.length ≤ 24 := stp_le (by omega) (by omega)
    refine lv_isub hx hb dX1_serve_99 ?_
    refine va_mmax hx hb (hml.trans hl.1.symm) hown (hts (.methodLink RX1 77 Lib.Math.max.name) (by decide +kernel)) (hts (.static Lib.Math.max.name) (by decide +kernel)) (hts (.initialized "java/lang/Math") (by decide +kernel)) (hts (.code Lib.Math.max.name Lib.Math.max.code 2 (some .int)) (by decide +kernel)) (Nat.le_of_ble_eq_true rfl) (Nat.le_of_ble_eq_true rfl) (Nat.le_of_ble_eq_true rfl) (Nat.le_of_ble_eq_true rfl) dX1_serve_100 ?_
    obtain ⟨b1, eb⟩ : ∃ b1, b1 = bo - stp L3.length L4.length := ⟨_, rfl⟩
    refine g_top (y := nI b1) (by rw [eb]; exact max_sub (by omega) (by omega)) ?_
    have hb1 : b1 ≤ rc := by omega
    have hnb : Num rc b1 (L1, L2, L3, L4) := ⟨hn1, hn2, hb1, hn4, hn5, hn6⟩
    have es : sBord rc bo (L1, L2, L3, L4) jar = b1 := by rw [(serve4 hw0).1, eb]
    refine va_put (D := G) (ci := 1) (v := .int (nI b1)) (ty := .int) (C := RX1) (T := TX1) (N := 7) hx hb hts iX1_serve_X1 tyX1 tyX1_ok nmX1 hown hK hP hD hS 0 rfl rfl 5 (by decide) (hts (.fieldLink RX1 33 "GhostPantry$Shelves" "border" "I") (by decide +kernel)) (fun _ h9 => h9) rfl (by decide +kernel) rfl rfl (Nat.le_of_ble_eq_true rfl) dX1_serve_103 (fun H116 locs hP1 hD1 hS1 => ?_)
    clear hP hD hS
    have hP : va_P G vwCl [(sh, .inr (1, [.ref r1, .ref r2, .ref r3, .ref r4, .int (nI rc), .int (nI b1), .int (-1)])), (r1, .inr (0, [.ref j1, .int (nI L1.length)])), (j1, .inl (cI, 30, .inl f1)), (r2, .inr (0, [.ref j2, .int (nI L2.length)])), (j2, .inl (cI, 30, .inl f2)), (r3, .inr (0, [.ref j3, .int (nI L3.length)])), (j3, .inl (cI, 30, .inl f3)), (r4, .inr (0, [.ref j4, .int (nI L4.length)])), (j4, .inl (cI, 30, .inl f4))] H116 := hP1
    have hD : va_D A [(sh, .inr (1, [.ref r1, .ref r2, .ref r3, .ref r4, .int (nI rc), .int (nI b1), .int (-1)])), (r1, .inr (0, [.ref j1, .int (nI L1.length)])), (j1, .inl (cI, 30, .inl f1)), (r2, .inr (0, [.ref j2, .int (nI L2.length)])), (j2, .inl (cI, 30, .inl f2)), (r3, .inr (0, [.ref j3, .int (nI L3.length)])), (j3, .inl (cI, 30, .inl f3)), (r4, .inr (0, [.ref j4, .int (nI L4.length)])), (j4, .inl (cI, 30, .inl f4))] := hD1
    have hS := hS1
    clear hP1 hD1 hS1
    refine lv_aload_n hx hb dX1_serve_106 rfl (lv_at hl 2 rfl) ?_
    refine lv_iconst (v := (nI 1)) hx hb dX1_serve_107 (by decide +kernel) ?_
    have hPc := hP.sub (ws' := [(sh, .inr (1, [.ref r1, .ref r2, .ref r3, .ref r4, .int (nI rc), .int (nI b1), .int (-1)])), (r1, .inr (0, [.ref j1, .int (nI L1.length)])), (j1, .inl (cI, 30, .inl f1)), (r2, .inr (0, [.ref j2, .int (nI L2.length)])), (j2, .inl (cI, 30, .inl f2)), (r3, .inr (0, [.ref j3, .int (nI L3.length)])), (j3, .inl (cI, 30, .inl f3)), (r4, .inr (0, [.ref j4, .int (nI L4.length)])), (j4, .inl (cI, 30, .inl f4))]) [0, 1, 2, 3, 4, 5, 6, 7, 8] rfl
    have hDc := hD.sub (ws' := [(sh, .inr (1, [.ref r1, .ref r2, .ref r3, .ref r4, .int (nI rc), .int (nI b1), .int (-1)])), (r1, .inr (0, [.ref j1, .int (nI L1.length)])), (j1, .inl (cI, 30, .inl f1)), (r2, .inr (0, [.ref j2, .int (nI L2.length)])), (j2, .inl (cI, 30, .inl f2)), (r3, .inr (0, [.ref j3, .int (nI L3.length)])), (j3, .inl (cI, 30, .inl f3)), (r4, .inr (0, [.ref j4, .int (nI L4.length)])), (j4, .inl (cI, 30, .inl f4))]) [0, 1, 2, 3, 4, 5, 6, 7, 8] (by decide) rfl
    have hKc := hK.sub (tys' := [(cI, .int)]) [0] rfl
    have hFc := va_free (wc := [(sh, .inr (1, [.ref r1, .ref r2, .ref r3, .ref r4, .int (nI rc), .int (nI b1), .int (-1)])), (r1, .inr (0, [.ref j1, .int (nI L1.length)])), (j1, .inl (cI, 30, .inl f1)), (r2, .inr (0, [.ref j2, .int (nI L2.length)])), (j2, .inl (cI, 30, .inl f2)), (r3, .inr (0, [.ref j3, .int (nI L3.length)])), (j3, .inl (cI, 30, .inl f3)), (r4, .inr (0, [.ref j4, .int (nI L4.length)])), (j4, .inl (cI, 30, .inl f4))]) hD hS hA [0, 1, 2, 3, 4, 5, 6, 7, 8] rfl
    refine va_callv (va_runV (As := [.int (nI 1)]) (rest := []) ⟨hx, hb, hml, hown, hts⟩ (c_X1_makeRoom l G cI sh r1 r2 r3 r4 j1 j2 j3 j4 f1 f2 f3 f4 L1 L2 L3 L4 rc b1 (-1) hR1 hR2 hR3 hR4 hnb ⟨hj1, hj2, hj3, hj4⟩ true H116.size) (cwV 1 hts gX1_serve_X1_makeRoom rfl rfl rfl (by decide +kernel) ⟨Nat.le_of_ble_eq_true rfl, Nat.le_of_ble_eq_true rfl⟩) (g_preV (As := [.int (nI 1)]) hPc hKc hDc 0 rfl rfl) rfl rfl hl.1 rfl (lv_room (Nat.le_of_ble_eq_true rfl)) dX1_serve_108 ⟨(Nat.le_of_ble_eq_true rfl), (Nat.le_of_ble_eq_true rfl)⟩) hS (fun q _ h => hFc q h) hFc (fun u133 t H131 locs ht hvm hw hB hz1 hk1 hS1 => ?_)
    obtain ⟨⟨M117, M118, M119, M120⟩, x129⟩ := u133
    obtain ⟨f121, f122, f123, f124, hf125, hf126, hf127, hf128, hB⟩ := hB
    have hf125 : Rw f121 M117 := hf125
    have hf126 : Rw f122 M118 := hf126
    have hf127 : Rw f123 M119 := hf127
    have hf128 : Rw f124 M120 := hf128
    have hq130 : (M117, M118, M119, M120) = sRoom rc b1 true (L1, L2, L3, L4) := congrArg Prod.fst hw
    have hx130 : x129 = sRoomX rc b1 true (L1, L2, L3, L4) (-1) := congrArg Prod.snd hw
    have a130 := room_lt (ff := true) hnb
    rw [← hq130] at a130
    have b130 := room_sum (ff := true) hnb
    rw [← hq130] at b130
    dsimp only at a130 b130
    obtain ⟨b1301, b1302, b1303, b1304⟩ := b130
    obtain ⟨hP1, hD1⟩ := g_join (wc := [(sh, .inr (1, [.ref r1, .ref r2, .ref r3, .ref r4, .int (nI rc), .int (nI b1), .int (-1)])), (r1, .inr (0, [.ref j1, .int (nI L1.length)])), (j1, .inl (cI, 30, .inl f1)), (r2, .inr (0, [.ref j2, .int (nI L2.length)])), (j2, .inl (cI, 30, .inl f2)), (r3, .inr (0, [.ref j3, .int (nI L3.length)])), (j3, .inl (cI, 30, .inl f3)), (r4, .inr (0, [.ref j4, .int (nI L4.length)])), (j4, .inl (cI, 30, .inl f4))]) (wr := []) (w1 := [(sh, .inr (1, [.ref r1, .ref r2, .ref r3, .ref r4, .int (nI rc), .int (nI b1), .int x129])), (r1, .inr (0, [.ref j1, .int (nI M117.length)])), (j1, .inl (cI, 30, .inl f121)), (r2, .inr (0, [.ref j2, .int (nI M118.length)])), (j2, .inl (cI, 30, .inl f122)), (r3, .inr (0, [.ref j3, .int (nI M119.length)])), (j3, .inl (cI, 30, .inl f123)), (r4, .inr (0, [.ref j4, .int (nI M120.length)])), (j4, .inl (cI, 30, .inl f124))]) hP hD [0, 1, 2, 3, 4, 5, 6, 7, 8] [] rfl rfl (by decide) (by decide) ht hk1 hFc hB
    clear hB hk1 hz1 hvm ht hPc hDc hKc hFc
    clear hP hD hS
    have hP : va_P G vwCl [(sh, .inr (1, [.ref r1, .ref r2, .ref r3, .ref r4, .int (nI rc), .int (nI b1), .int x129])), (r1, .inr (0, [.ref j1, .int (nI M117.length)])), (j1, .inl (cI, 30, .inl f121)), (r2, .inr (0, [.ref j2, .int (nI M118.length)])), (j2, .inl (cI, 30, .inl f122)), (r3, .inr (0, [.ref j3, .int (nI M119.length)])), (j3, .inl (cI, 30, .inl f123)), (r4, .inr (0, [.ref j4, .int (nI M120.length)])), (j4, .inl (cI, 30, .inl f124))] H131 := hP1
    have hD : va_D A [(sh, .inr (1, [.ref r1, .ref r2, .ref r3, .ref r4, .int (nI rc), .int (nI b1), .int x129])), (r1, .inr (0, [.ref j1, .int (nI M117.length)])), (j1, .inl (cI, 30, .inl f121)), (r2, .inr (0, [.ref j2, .int (nI M118.length)])), (j2, .inl (cI, 30, .inl f122)), (r3, .inr (0, [.ref j3, .int (nI M119.length)])), (j3, .inl (cI, 30, .inl f123)), (r4, .inr (0, [.ref j4, .int (nI M120.length)])), (j4, .inl (cI, 30, .inl f124))] := hD1
    have hS := hS1
    clear hP1 hD1 hS1
    refine lv_aload_n hx hb dX1_serve_111 rfl (lv_at hl 0 rfl) ?_
    refine lv_aload_n hx hb dX1_serve_112 rfl (lv_at hl 0 rfl) ?_
    refine lv_iload_n hx hb dX1_serve_113 rfl (lv_at hl 3 rfl) ?_
    have hPc := hP.sub (ws' := [(r4, .inr (0, [.ref j4, .int (nI M120.length)])), (j4, .inl (cI, 30, .inl f124))]) [7, 8] rfl
    have hDc := hD.sub (ws' := [(r4, .inr (0, [.ref j4, .int (nI M120.length)])), (j4, .inl (cI, 30, .inl f124))]) [7, 8] (by decide) rfl
    have hKc := hK.sub (tys' := [(cI, .int)]) [0] rfl
    have hFc := va_free (wc := [(r4, .inr (0, [.ref j4, .int (nI M120.length)])), (j4, .inl (cI, 30, .inl f124))]) hD hS hA [7, 8] rfl
    refine va_calli (va_runV (As := [.int jar]) (rest := [.ref r4]) ⟨hx, hb, hml, hown, hts⟩ (c_X0_placeOf l G cI r4 j4 f124 M120 hf128 (by omega) jar H131.size) (cwV 1 hts gX1_serve_X0_placeOf rfl rfl rfl (by decide +kernel) ⟨Nat.le_of_ble_eq_true rfl, Nat.le_of_ble_eq_true rfl⟩) (g_preV (As := [.int jar]) hPc hKc hDc 0 rfl rfl) rfl rfl hl.1 rfl (lv_room (Nat.le_of_ble_eq_true rfl)) dX1_serve_114 ⟨(Nat.le_of_ble_eq_true rfl), (Nat.le_of_ble_eq_true rfl)⟩) hS (fun q _ h => hFc q h) hFc (fun r135 u136 t H134 locs ht hvm hw hB hz1 hk1 hS1 => ?_)
    subst hw
    obtain ⟨hP1, hD1⟩ := g_join (wc := [(r4, .inr (0, [.ref j4, .int (nI M120.length)])), (j4, .inl (cI, 30, .inl f124))]) (wr := [(sh, .inr (1, [.ref r1, .ref r2, .ref r3, .ref r4, .int (nI rc), .int (nI b1), .int x129])), (r1, .inr (0, [.ref j1, .int (nI M117.length)])), (j1, .inl (cI, 30, .inl f121)), (r2, .inr (0, [.ref j2, .int (nI M118.length)])), (j2, .inl (cI, 30, .inl f122)), (r3, .inr (0, [.ref j3, .int (nI M119.length)])), (j3, .inl (cI, 30, .inl f123))]) (w1 := [(r4, .inr (0, [.ref j4, .int (nI M120.length)])), (j4, .inl (cI, 30, .inl f124))]) hP hD [7, 8] [0, 1, 2, 3, 4, 5, 6] rfl rfl (by decide) (by decide) ht hk1 hFc hB
    clear hB hk1 hz1 hvm ht hPc hDc hKc hFc
    clear hP hD hS
    have hP : va_P G vwCl [(sh, .inr (1, [.ref r1, .ref r2, .ref r3, .ref r4, .int (nI rc), .int (nI b1), .int x129])), (r1, .inr (0, [.ref j1, .int (nI M117.length)])), (j1, .inl (cI, 30, .inl f121)), (r2, .inr (0, [.ref j2, .int (nI M118.length)])), (j2, .inl (cI, 30, .inl f122)), (r3, .inr (0, [.ref j3, .int (nI M119.length)])), (j3, .inl (cI, 30, .inl f123)), (r4, .inr (0, [.ref j4, .int (nI M120.length)])), (j4, .inl (cI, 30, .inl f124))] H134 := hP1
    have hD : va_D A [(sh, .inr (1, [.ref r1, .ref r2, .ref r3, .ref r4, .int (nI rc), .int (nI b1), .int x129])), (r1, .inr (0, [.ref j1, .int (nI M117.length)])), (j1, .inl (cI, 30, .inl f121)), (r2, .inr (0, [.ref j2, .int (nI M118.length)])), (j2, .inl (cI, 30, .inl f122)), (r3, .inr (0, [.ref j3, .int (nI M119.length)])), (j3, .inl (cI, 30, .inl f123)), (r4, .inr (0, [.ref j4, .int (nI M120.length)])), (j4, .inl (cI, 30, .inl f124))] := hD1
    have hS := hS1
    clear hP1 hD1 hS1
    have mj : jar ∈ M120 := by
      have z := room_mem4 (ff := true) hnb mj
      rw [← hq130] at z
      exact z
    have mi := idx_lt mj
    have ml : (M120.eraseIdx (M120.idxOf jar)).length = M120.length - 1 := List.length_eraseIdx_of_lt mi
    refine g_top (y := nI (M120.idxOf jar)) (pos_idx mj) ?_
    have hPc := hP.sub (ws' := [(r4, .inr (0, [.ref j4, .int (nI M120.length)])), (j4, .inl (cI, 30, .inl f124))]) [7, 8] rfl
    have hDc := hD.sub (ws' := [(r4, .inr (0, [.ref j4, .int (nI M120.length)])), (j4, .inl (cI, 30, .inl f124))]) [7, 8] (by decide) rfl
    have hKc := hK.sub (tys' := [(cI, .int)]) [0] rfl
    have hFc := va_free (wc := [(r4, .inr (0, [.ref j4, .int (nI M120.length)])), (j4, .inl (cI, 30, .inl f124))]) hD hS hA [7, 8] rfl
    refine va_calli (va_runV (As := [.int (nI (M120.idxOf jar))]) (rest := []) ⟨hx, hb, hml, hown, hts⟩ (c_X0_takeAt l G cI r4 j4 f124 M120 hf128 (by omega) (M120.idxOf jar) (by first | omega | (simp only [List.length_cons, List.length_dropLast] at *; omega)) H134.size) (cwV 1 hts gX1_serve_X0_takeAt rfl rfl rfl (by decide +kernel) ⟨Nat.le_of_ble_eq_true rfl, Nat.le_of_ble_eq_true rfl⟩) (g_preV (As := [.int (nI (M120.idxOf jar))]) hPc hKc hDc 0 rfl rfl) rfl rfl hl.1 rfl (lv_room (Nat.le_of_ble_eq_true rfl)) dX1_serve_117 ⟨(Nat.le_of_ble_eq_true rfl), (Nat.le_of_ble_eq_true rfl)⟩) hS (fun q _ h => hFc q h) hFc (fun r140 u141 t H139 locs ht hvm hw hB hz1 hk1 hS1 => ?_)
    subst hw
    obtain ⟨f137, hf138, hB⟩ := hB
    obtain ⟨hP1, hD1⟩ := g_join (wc := [(r4, .inr (0, [.ref j4, .int (nI M120.length)])), (j4, .inl (cI, 30, .inl f124))]) (wr := [(sh, .inr (1, [.ref r1, .ref r2, .ref r3, .ref r4, .int (nI rc), .int (nI b1), .int x129])), (r1, .inr (0, [.ref j1, .int (nI M117.length)])), (j1, .inl (cI, 30, .inl f121)), (r2, .inr (0, [.ref j2, .int (nI M118.length)])), (j2, .inl (cI, 30, .inl f122)), (r3, .inr (0, [.ref j3, .int (nI M119.length)])), (j3, .inl (cI, 30, .inl f123))]) (w1 := [(r4, .inr (0, [.ref j4, .int (nI ((M120.eraseIdx (M120.idxOf jar)).length))])), (j4, .inl (cI, 30, .inl f137))]) hP hD [7, 8] [0, 1, 2, 3, 4, 5, 6] rfl rfl (by decide) (by decide) ht hk1 hFc hB
    clear hB hk1 hz1 hvm ht hPc hDc hKc hFc
    clear hP hD hS
    have hP : va_P G vwCl [(sh, .inr (1, [.ref r1, .ref r2, .ref r3, .ref r4, .int (nI rc), .int (nI b1), .int x129])), (r1, .inr (0, [.ref j1, .int (nI M117.length)])), (j1, .inl (cI, 30, .inl f121)), (r2, .inr (0, [.ref j2, .int (nI M118.length)])), (j2, .inl (cI, 30, .inl f122)), (r3, .inr (0, [.ref j3, .int (nI M119.length)])), (j3, .inl (cI, 30, .inl f123)), (r4, .inr (0, [.ref j4, .int (nI ((M120.eraseIdx (M120.idxOf jar)).length))])), (j4, .inl (cI, 30, .inl f137))] H139 := hP1
    have hD : va_D A [(sh, .inr (1, [.ref r1, .ref r2, .ref r3, .ref r4, .int (nI rc), .int (nI b1), .int x129])), (r1, .inr (0, [.ref j1, .int (nI M117.length)])), (j1, .inl (cI, 30, .inl f121)), (r2, .inr (0, [.ref j2, .int (nI M118.length)])), (j2, .inl (cI, 30, .inl f122)), (r3, .inr (0, [.ref j3, .int (nI M119.length)])), (j3, .inl (cI, 30, .inl f123)), (r4, .inr (0, [.ref j4, .int (nI ((M120.eraseIdx (M120.idxOf jar)).length))])), (j4, .inl (cI, 30, .inl f137))] := hD1
    have hS := hS1
    clear hP1 hD1 hS1
    refine lv_pop hx hb dX1_serve_120 rfl ?_
    refine lv_aload_n hx hb dX1_serve_121 rfl (lv_at hl 2 rfl) ?_
    refine va_get (D := G) (ci := 1) (v := .ref r2) (C := RX1) (T := TX1) (N := 7) hx hb hts iX1_serve_X1 hown hK hP 0 rfl rfl 1 (by decide) (hts (.fieldLink RX1 20 "GhostPantry$Shelves" "frequent" "LGhostPantry$Row;") (by decide +kernel)) (fun _ h9 => h9) rfl dX1_serve_122 ?_
    refine lv_iload_n hx hb dX1_serve_125 rfl (lv_at hl 3 rfl) ?_
    have hPc := hP.sub (ws' := [(r2, .inr (0, [.ref j2, .int (nI M118.length)])), (j2, .inl (cI, 30, .inl f122))]) [3, 4] rfl
    have hDc := hD.sub (ws' := [(r2, .inr (0, [.ref j2, .int (nI M118.length)])), (j2, .inl (cI, 30, .inl f122))]) [3, 4] (by decide) rfl
    have hKc := hK.sub (tys' := [(cI, .int)]) [0] rfl
    have hFc := va_free (wc := [(r2, .inr (0, [.ref j2, .int (nI M118.length)])), (j2, .inl (cI, 30, .inl f122))]) hD hS hA [3, 4] rfl
    refine va_callv (va_runV (As := [.int jar]) (rest := []) ⟨hx, hb, hml, hown, hts⟩ (c_X0_putFirst l G cI r2 j2 f122 M118 hf126 (by omega) jar (by first | omega | (simp only [List.length_cons, List.length_dropLast] at *; omega)) H139.size) (cwV 1 hts gX1_serve_X0_putFirst rfl rfl rfl (by decide +kernel) ⟨Nat.le_of_ble_eq_true rfl, Nat.le_of_ble_eq_true rfl⟩) (g_preV (As := [.int jar]) hPc hKc hDc 0 rfl rfl) rfl rfl hl.1 rfl (lv_room (Nat.le_of_ble_eq_true rfl)) dX1_serve_126 ⟨(Nat.le_of_ble_eq_true rfl), (Nat.le_of_ble_eq_true rfl)⟩) hS (fun q _ h => hFc q h) hFc (fun u146 t H144 locs ht hvm hw hB hz1 hk1 hS1 => ?_)
    obtain ⟨f142, hf143, hB⟩ := hB
    obtain ⟨hP1, hD1⟩ := g_join (wc := [(r2, .inr (0, [.ref j2, .int (nI M118.length)])), (j2, .inl (cI, 30, .inl f122))]) (wr := [(sh, .inr (1, [.ref r1, .ref r2, .ref r3, .ref r4, .int (nI rc), .int (nI b1), .int x129])), (r1, .inr (0, [.ref j1, .int (nI M117.length)])), (j1, .inl (cI, 30, .inl f121)), (r3, .inr (0, [.ref j3, .int (nI M119.length)])), (j3, .inl (cI, 30, .inl f123)), (r4, .inr (0, [.ref j4, .int (nI ((M120.eraseIdx (M120.idxOf jar)).length))])), (j4, .inl (cI, 30, .inl f137))]) (w1 := [(r2, .inr (0, [.ref j2, .int (nI ((jar :: M118).length))])), (j2, .inl (cI, 30, .inl f142))]) hP hD [3, 4] [0, 1, 2, 5, 6, 7, 8] rfl rfl (by decide) (by decide) ht hk1 hFc hB
    clear hB hk1 hz1 hvm ht hPc hDc hKc hFc
    clear hP hD hS
    have hP : va_P G vwCl [(sh, .inr (1, [.ref r1, .ref r2, .ref r3, .ref r4, .int (nI rc), .int (nI b1), .int x129])), (r1, .inr (0, [.ref j1, .int (nI M117.length)])), (j1, .inl (cI, 30, .inl f121)), (r3, .inr (0, [.ref j3, .int (nI M119.length)])), (j3, .inl (cI, 30, .inl f123)), (r4, .inr (0, [.ref j4, .int (nI ((M120.eraseIdx (M120.idxOf jar)).length))])), (j4, .inl (cI, 30, .inl f137)), (r2, .inr (0, [.ref j2, .int (nI ((jar :: M118).length))])), (j2, .inl (cI, 30, .inl f142))] H144 := hP1
    have hD : va_D A [(sh, .inr (1, [.ref r1, .ref r2, .ref r3, .ref r4, .int (nI rc), .int (nI b1), .int x129])), (r1, .inr (0, [.ref j1, .int (nI M117.length)])), (j1, .inl (cI, 30, .inl f121)), (r3, .inr (0, [.ref j3, .int (nI M119.length)])), (j3, .inl (cI, 30, .inl f123)), (r4, .inr (0, [.ref j4, .int (nI ((M120.eraseIdx (M120.idxOf jar)).length))])), (j4, .inl (cI, 30, .inl f137)), (r2, .inr (0, [.ref j2, .int (nI ((jar :: M118).length))])), (j2, .inl (cI, 30, .inl f142))] := hD1
    have hS := hS1
    clear hP1 hD1 hS1
    refine lv_iload_n hx hb dX1_serve_129 rfl (lv_at hl 1 rfl) ?_
    have hP9 := hP.sub (ws' := [(sh, .inr (1, [.ref r1, .ref r2, .ref r3, .ref r4, .int (nI rc), .int (nI b1), .int x129])), (r1, .inr (0, [.ref j1, .int (nI M117.length)])), (j1, .inl (cI, 30, .inl f121)), (r2, .inr (0, [.ref j2, .int (nI ((jar :: M118).length))])), (j2, .inl (cI, 30, .inl f142)), (r3, .inr (0, [.ref j3, .int (nI M119.length)])), (j3, .inl (cI, 30, .inl f123)), (r4, .inr (0, [.ref j4, .int (nI ((M120.eraseIdx (M120.idxOf jar)).length))])), (j4, .inl (cI, 30, .inl f137))]) [0, 1, 2, 7, 8, 3, 4, 5, 6] rfl
    have hD9 := hD.sub (ws' := [(sh, .inr (1, [.ref r1, .ref r2, .ref r3, .ref r4, .int (nI rc), .int (nI b1), .int x129])), (r1, .inr (0, [.ref j1, .int (nI M117.length)])), (j1, .inl (cI, 30, .inl f121)), (r2, .inr (0, [.ref j2, .int (nI ((jar :: M118).length))])), (j2, .inl (cI, 30, .inl f142)), (r3, .inr (0, [.ref j3, .int (nI M119.length)])), (j3, .inl (cI, 30, .inl f123)), (r4, .inr (0, [.ref j4, .int (nI ((M120.eraseIdx (M120.idxOf jar)).length))])), (j4, .inl (cI, 30, .inl f137))]) [0, 1, 2, 7, 8, 3, 4, 5, 6] (by decide) rfl
    exact W.iret (v := (nI 4)) hx hb hr (fun t ht hW => ⟨⟨(nI 4), ((M117, (jar :: M118), M119, (M120.eraseIdx (M120.idxOf jar))), b1, x129), rfl, ⟨(by rw [hw0]), (by rw [(serve4 hw0).2.1, (serve4 hw0).2.2, es, ← hq130, ← hx130]; rfl)⟩, _, _, _, _, hf125, hf143, hf127, hf138, g_at hP9 hK hD9 ht hW⟩, hS.F ht⟩) hS.2.2 dX1_serve_130
