set_option maxRecDepth 20000 in
theorem iX3_thrown_X3 : ∀ w ∈ wsX30, w ∈ wsX3_thrown := by decide +kernel
set_option maxHeartbeats 4000000 in
set_option maxRecDepth 100000 in
theorem c_X3_thrown (l : Launch) (G : va_G) (cI cR : ClassId) (mo rr si nb ak ha b0 b1 b2 b3 b4 b5 b6 : Nat) (th : Int32) (D : Nat → Nat → Int32) (L1 L2 L3 L4 P M : List Int32) (rc bo : Nat) (nA nH nP nM : Int32) (KA TA : Nat → Int32) (hM : MOK D rc M ((L1, L2, L3, L4), P, bo, nA, nH, nP, nM, KA, TA))  (sz : Nat) : Met l yX3_thrown wsX3_thrown ({ frames := 0, cells := 0, slots := 0, locals := 0 }) (va_Pc [.ref mo] (gpre G [(cI, .int), (cR, .array .int)] [(mo, .inr (3, [.int th, .ref rr, .ref si, .ref nb, .ref ak, .ref ha])), (rr, .inl (cR, 7, .inr (.inr (.inr (.inr (RW [b0, b1, b2, b3, b4, b5, b6])))))), (si, .inl (cI, 7, .inl (D 0))), (nb, .inl (cI, 6, .inl (D 1))), (ak, .inl (cI, 30, .inl (D 2))), (ha, .inl (cI, 30, .inl (D 3))), (b0, .inl (cI, 31, .inl (D 4))), (b1, .inl (cI, 31, .inl (D 5))), (b2, .inl (cI, 31, .inl (D 6))), (b3, .inl (cI, 31, .inl (D 7))), (b4, .inl (cI, 31, .inl (D 8))), (b5, .inl (cI, 31, .inl (D 9))), (b6, .inl (cI, 31, .inl (D 10)))] sz)) (va_Qi (fun (z : Int32) (_ : Unit) => z = th) (fun (_ : Unit) t => gat G [(cI, .int), (cR, .array .int)] (va_A [(mo, .inr (3, [.int th, .ref rr, .ref si, .ref nb, .ref ak, .ref ha])), (rr, .inl (cR, 7, .inr (.inr (.inr (.inr (RW [b0, b1, b2, b3, b4, b5, b6])))))), (si, .inl (cI, 7, .inl (D 0))), (nb, .inl (cI, 6, .inl (D 1))), (ak, .inl (cI, 30, .inl (D 2))), (ha, .inl (cI, 30, .inl (D 3))), (b0, .inl (cI, 31, .inl (D 4))), (b1, .inl (cI, 31, .inl (D 5))), (b2, .inl (cI, 31, .inl (D 6))), (b3, .inl (cI, 31, .inl (D 7))), (b4, .inl (cI, 31, .inl (D 8))), (b5, .inl (cI, 31, .inl (D 9))), (b6, .inl (cI, 31, .inl (D 10)))] sz) [(mo, .inr (3, [.int th, .ref rr, .ref si, .ref nb, .ref ak, .ref ha])), (rr, .inl (cR, 7, .inr (.inr (.inr (.inr (RW [b0, b1, b2, b3, b4, b5, b6])))))), (si, .inl (cI, 7, .inl (D 0))), (nb, .inl (cI, 6, .inl (D 1))), (ak, .inl (cI, 30, .inl (D 2))), (ha, .inl (cI, 30, .inl (D 3))), (b0, .inl (cI, 31, .inl (D 4))), (b1, .inl (cI, 31, .inl (D 5))), (b2, .inl (cI, 31, .inl (D 6))), (b3, .inl (cI, 31, .inl (D 7))), (b4, .inl (cI, 31, .inl (D 8))), (b5, .inl (cI, 31, .inl (D 9))), (b6, .inl (cI, 31, .inl (D 10)))] t) (va_A [(mo, .inr (3, [.int th, .ref rr, .ref si, .ref nb, .ref ak, .ref ha])), (rr, .inl (cR, 7, .inr (.inr (.inr (.inr (RW [b0, b1, b2, b3, b4, b5, b6])))))), (si, .inl (cI, 7, .inl (D 0))), (nb, .inl (cI, 6, .inl (D 1))), (ak, .inl (cI, 30, .inl (D 2))), (ha, .inl (cI, 30, .inl (D 3))), (b0, .inl (cI, 31, .inl (D 4))), (b1, .inl (cI, 31, .inl (D 5))), (b2, .inl (cI, 31, .inl (D 6))), (b3, .inl (cI, 31, .inl (D 7))), (b4, .inl (cI, 31, .inl (D 8))), (b5, .inl (cI, 31, .inl (D 9))), (b6, .inl (cI, 31, .inl (D 10)))] sz)) 0 0 (va_A [(mo, .inr (3, [.int th, .ref rr, .ref si, .ref nb, .ref ak, .ref ha])), (rr, .inl (cR, 7, .inr (.inr (.inr (.inr (RW [b0, b1, b2, b3, b4, b5, b6])))))), (si, .inl (cI, 7, .inl (D 0))), (nb, .inl (cI, 6, .inl (D 1))), (ak, .inl (cI, 30, .inl (D 2))), (ha, .inl (cI, 30, .inl (D 3))), (b0, .inl (cI, 31, .inl (D 4))), (b1, .inl (cI, 31, .inl (D 5))), (b2, .inl (cI, 31, .inl (D 6))), (b3, .inl (cI, 31, .inl (D 7))), (b4, .inl (cI, 31, .inl (D 8))), (b5, .inl (cI, 31, .inl (D 9))), (b6, .inl (cI, 31, .inl (D 10)))] sz) := by
  refine Met.ofW (cc := cX3_thrown) (maxL := 1) (ret := (some .int)) (by decide) rfl ?_
  intro p e s m args below meth c s₁ B hml hv
  obtain ⟨rfl, hsz, hP, hK, hD0⟩ := hv
  have hx := B.exec
  have hb := B.bytes
  have hr := B.returns
  have hts := atoms_spec (ws := wsX3_thrown) B.pre
  have hown : s.vm.findClass RX3 = some m.cls := findClass_of_methodNamed B.named
  have hlocks := B.notSynchronized
  subst hsz
  have hD := hD0.self (sz := s.heap.size)
  clear hD0
  generalize hAe : va_A [(mo, .inr (3, [.int th, .ref rr, .ref si, .ref nb, .ref ak, .ref ha])), (rr, .inl (cR, 7, .inr (.inr (.inr (.inr (RW [b0, b1, b2, b3, b4, b5, b6])))))), (si, .inl (cI, 7, .inl (D 0))), (nb, .inl (cI, 6, .inl (D 1))), (ak, .inl (cI, 30, .inl (D 2))), (ha, .inl (cI, 30, .inl (D 3))), (b0, .inl (cI, 31, .inl (D 4))), (b1, .inl (cI, 31, .inl (D 5))), (b2, .inl (cI, 31, .inl (D 6))), (b3, .inl (cI, 31, .inl (D 7))), (b4, .inl (cI, 31, .inl (D 8))), (b5, .inl (cI, 31, .inl (D 9))), (b6, .inl (cI, 31, .inl (D 10)))] s.heap.size = A at hD ⊢
  have hA : ∀ q : Nat, s.heap.size ≤ q → A q := fun q h => by rw [← hAe]; exact Or.inr h
  have hS : va_S A s.heap s.heap [] := va_S.rf
  have hP : va_P G vwCl [(mo, .inr (3, [.int th, .ref rr, .ref si, .ref nb, .ref ak, .ref ha])), (rr, .inl (cR, 7, .inr (.inr (.inr (.inr (RW [b0, b1, b2, b3, b4, b5, b6])))))), (si, .inl (cI, 7, .inl (D 0))), (nb, .inl (cI, 6, .inl (D 1))), (ak, .inl (cI, 30, .inl (D 2))), (ha, .inl (cI, 30, .inl (D 3))), (b0, .inl (cI, 31, .inl (D 4))), (b1, .inl (cI, 31, .inl (D 5))), (b2, .inl (cI, 31, .inl (D 6))), (b3, .inl (cI, 31, .inl (D 7))), (b4, .inl (cI, 31, .inl (D 8))), (b5, .inl (cI, 31, .inl (D 9))), (b6, .inl (cI, 31, .inl (D 10)))] s.heap := hP
  have hl := lv_entry ([.ref mo]) (n := 1) (Nat.le_of_ble_eq_true rfl)
  rw [lg_entry_eq]
  generalize (lg_sl ([.ref mo]) ++ List.replicate (1 - (lg_sl ([.ref mo])).length) Slot.unset).toArray = ls at hl ⊢
  have hl : lv_has ls 1 [(0, .ref mo)] := hl
  refine lv_aload_n hx hb dX3_thrown_0 rfl (lv_at hl 0 rfl) ?_
  refine va_get (D := G) (ci := 3) (v := .int th) (C := RX3) (T := TX3) (N := 6) hx hb hts iX3_thrown_X3 hown hK hP 0 rfl rfl 0 (by decide) (hts (.fieldLink RX3 27 "GhostPantryModel" "thrown" "I") (by decide +kernel)) (fun _ h9 => h9) rfl dX3_thrown_1 ?_
  have hP9 := hP.sub (ws' := [(mo, .inr (3, [.int th, .ref rr, .ref si, .ref nb, .ref ak, .ref ha])), (rr, .inl (cR, 7, .inr (.inr (.inr (.inr (RW [b0, b1, b2, b3, b4, b5, b6])))))), (si, .inl (cI, 7, .inl (D 0))), (nb, .inl (cI, 6, .inl (D 1))), (ak, .inl (cI, 30, .inl (D 2))), (ha, .inl (cI, 30, .inl (D 3))), (b0, .inl (cI, 31, .inl (D 4))), (b1, .inl (cI, 31, .inl (D 5))), (b2, .inl (cI, 31, .inl (D 6))), (b3, .inl (cI, 31, .inl (D 7))), (b4, .inl (cI, 31, .inl (D 8))), (b5, .inl (cI, 31, .inl (D 9))), (b6, .inl (cI, 31, .inl (D 10)))]) [0, 1, 2, 3, 4, 5, 6, 7, 8, 9, 10, 11, 12] rfl
  have hD9 := hD.sub (ws' := [(mo, .inr (3, [.int th, .ref rr, .ref si, .ref nb, .ref ak, .ref ha])), (rr, .inl (cR, 7, .inr (.inr (.inr (.inr (RW [b0, b1, b2, b3, b4, b5, b6])))))), (si, .inl (cI, 7, .inl (D 0))), (nb, .inl (cI, 6, .inl (D 1))), (ak, .inl (cI, 30, .inl (D 2))), (ha, .inl (cI, 30, .inl (D 3))), (b0, .inl (cI, 31, .inl (D 4))), (b1, .inl (cI, 31, .inl (D 5))), (b2, .inl (cI, 31, .inl (D 6))), (b3, .inl (cI, 31, .inl (D 7))), (b4, .inl (cI, 31, .inl (D 8))), (b5, .inl (cI, 31, .inl (D 9))), (b6, .inl (cI, 31, .inl (D 10)))]) [0, 1, 2, 3, 4, 5, 6, 7, 8, 9, 10, 11, 12] (by decide) rfl
  exact W.iret (v := th) hx hb hr (fun t ht hW => ⟨⟨th, (), rfl, rfl, g_at hP9 hK hD9 ht hW⟩, hS.F ht⟩) hS.2.2 dX3_thrown_4

set_option maxRecDepth 20000 in
theorem iX3_fail_X3 : ∀ w ∈ wsX30, w ∈ wsX3_fail := by decide +kernel
set_option maxHeartbeats 4000000 in
set_option maxRecDepth 100000 in
theorem c_X3_fail (l : Launch) (G : va_G) (cI cR : ClassId) (mo rr si nb ak ha b0 b1 b2 b3 b4 b5 b6 : Nat) (th : Int32) (D : Nat → Nat → Int32) (L1 L2 L3 L4 P M : List Int32) (rc bo : Nat) (nA nH nP nM : Int32) (KA TA : Nat → Int32) (hM : MOK D rc M ((L1, L2, L3, L4), P, bo, nA, nH, nP, nM, KA, TA)) (n : Int32) (sz : Nat) : Met l yX3_fail wsX3_fail ({ frames := 0, cells := 0, slots := 0, locals := 0 }) (va_Pc [.ref mo, .int n] (gpre G [(cI, .int), (cR, .array .int)] [(mo, .inr (3, [.int th, .ref rr, .ref si, .ref nb, .ref ak, .ref ha])), (rr, .inl (cR, 7, .inr (.inr (.inr (.inr (RW [b0, b1, b2, b3, b4, b5, b6])))))), (si, .inl (cI, 7, .inl (D 0))), (nb, .inl (cI, 6, .inl (D 1))), (ak, .inl (cI, 30, .inl (D 2))), (ha, .inl (cI, 30, .inl (D 3))), (b0, .inl (cI, 31, .inl (D 4))), (b1, .inl (cI, 31, .inl (D 5))), (b2, .inl (cI, 31, .inl (D 6))), (b3, .inl (cI, 31, .inl (D 7))), (b4, .inl (cI, 31, .inl (D 8))), (b5, .inl (cI, 31, .inl (D 9))), (b6, .inl (cI, 31, .inl (D 10)))] sz)) (va_Qi (fun (z : Int32) (_ : Unit) => z = nI 0) (fun (_ : Unit) t => gat G [(cI, .int), (cR, .array .int)] (va_A [(mo, .inr (3, [.int th, .ref rr, .ref si, .ref nb, .ref ak, .ref ha])), (rr, .inl (cR, 7, .inr (.inr (.inr (.inr (RW [b0, b1, b2, b3, b4, b5, b6])))))), (si, .inl (cI, 7, .inl (D 0))), (nb, .inl (cI, 6, .inl (D 1))), (ak, .inl (cI, 30, .inl (D 2))), (ha, .inl (cI, 30, .inl (D 3))), (b0, .inl (cI, 31, .inl (D 4))), (b1, .inl (cI, 31, .inl (D 5))), (b2, .inl (cI, 31, .inl (D 6))), (b3, .inl (cI, 31, .inl (D 7))), (b4, .inl (cI, 31, .inl (D 8))), (b5, .inl (cI, 31, .inl (D 9))), (b6, .inl (cI, 31, .inl (D 10)))] sz) [(mo, .inr (3, [.int n, .ref rr, .ref si, .ref nb, .ref ak, .ref ha])), (rr, .inl (cR, 7, .inr (.inr (.inr (.inr (RW [b0, b1, b2, b3, b4, b5, b6])))))), (si, .inl (cI, 7, .inl (D 0))), (nb, .inl (cI, 6, .inl (D 1))), (ak, .inl (cI, 30, .inl (D 2))), (ha, .inl (cI, 30, .inl (D 3))), (b0, .inl (cI, 31, .inl (D 4))), (b1, .inl (cI, 31, .inl (D 5))), (b2, .inl (cI, 31, .inl (D 6))), (b3, .inl (cI, 31, .inl (D 7))), (b4, .inl (cI, 31, .inl (D 8))), (b5, .inl (cI, 31, .inl (D 9))), (b6, .inl (cI, 31, .inl (D 10)))] t) (va_A [(mo, .inr (3, [.int th, .ref rr, .ref si, .ref nb, .ref ak, .ref ha])), (rr, .inl (cR, 7, .inr (.inr (.inr (.inr (RW [b0, b1, b2, b3, b4, b5, b6])))))), (si, .inl (cI, 7, .inl (D 0))), (nb, .inl (cI, 6, .inl (D 1))), (ak, .inl (cI, 30, .inl (D 2))), (ha, .inl (cI, 30, .inl (D 3))), (b0, .inl (cI, 31, .inl (D 4))), (b1, .inl (cI, 31, .inl (D 5))), (b2, .inl (cI, 31, .inl (D 6))), (b3, .inl (cI, 31, .inl (D 7))), (b4, .inl (cI, 31, .inl (D 8))), (b5, .inl (cI, 31, .inl (D 9))), (b6, .inl (cI, 31, .inl (D 10)))] sz)) 0 0 (va_A [(mo, .inr (3, [.int th, .ref rr, .ref si, .ref nb, .ref ak, .ref ha])), (rr, .inl (cR, 7, .inr (.inr (.inr (.inr (RW [b0, b1, b2, b3, b4, b5, b6])))))), (si, .inl (cI, 7, .inl (D 0))), (nb, .inl (cI, 6, .inl (D 1))), (ak, .inl (cI, 30, .inl (D 2))), (ha, .inl (cI, 30, .inl (D 3))), (b0, .inl (cI, 31, .inl (D 4))), (b1, .inl (cI, 31, .inl (D 5))), (b2, .inl (cI, 31, .inl (D 6))), (b3, .inl (cI, 31, .inl (D 7))), (b4, .inl (cI, 31, .inl (D 8))), (b5, .inl (cI, 31, .inl (D 9))), (b6, .inl (cI, 31, .inl (D 10)))] sz) := by
  refine Met.ofW (cc := cX3_fail) (maxL := 2) (ret := (some .int)) (by decide) rfl ?_
  intro p e s m args below meth c s₁ B hml hv
  obtain ⟨rfl, hsz, hP, hK, hD0⟩ := hv
  have hx := B.exec
  have hb := B.bytes
  have hr := B.returns
  have hts := atoms_spec (ws := wsX3_fail) B.pre
  have hown : s.vm.findClass RX3 = some m.cls := findClass_of_methodNamed B.named
  have hlocks := B.notSynchronized
  subst hsz
  have hD := hD0.self (sz := s.heap.size)
  clear hD0
  generalize hAe : va_A [(mo, .inr (3, [.int th, .ref rr, .ref si, .ref nb, .ref ak, .ref ha])), (rr, .inl (cR, 7, .inr (.inr (.inr (.inr (RW [b0, b1, b2, b3, b4, b5, b6])))))), (si, .inl (cI, 7, .inl (D 0))), (nb, .inl (cI, 6, .inl (D 1))), (ak, .inl (cI, 30, .inl (D 2))), (ha, .inl (cI, 30, .inl (D 3))), (b0, .inl (cI, 31, .inl (D 4))), (b1, .inl (cI, 31, .inl (D 5))), (b2, .inl (cI, 31, .inl (D 6))), (b3, .inl (cI, 31, .inl (D 7))), (b4, .inl (cI, 31, .inl (D 8))), (b5, .inl (cI, 31, .inl (D 9))), (b6, .inl (cI, 31, .inl (D 10)))] s.heap.size = A at hD ⊢
  have hA : ∀ q : Nat, s.heap.size ≤ q → A q := fun q h => by rw [← hAe]; exact Or.inr h
  have hS : va_S A s.heap s.heap [] := va_S.rf
  have hP : va_P G vwCl [(mo, .inr (3, [.int th, .ref rr, .ref si, .ref nb, .ref ak, .ref ha])), (rr, .inl (cR, 7, .inr (.inr (.inr (.inr (RW [b0, b1, b2, b3, b4, b5, b6])))))), (si, .inl (cI, 7, .inl (D 0))), (nb, .inl (cI, 6, .inl (D 1))), (ak, .inl (cI, 30, .inl (D 2))), (ha, .inl (cI, 30, .inl (D 3))), (b0, .inl (cI, 31, .inl (D 4))), (b1, .inl (cI, 31, .inl (D 5))), (b2, .inl (cI, 31, .inl (D 6))), (b3, .inl (cI, 31, .inl (D 7))), (b4, .inl (cI, 31, .inl (D 8))), (b5, .inl (cI, 31, .inl (D 9))), (b6, .inl (cI, 31, .inl (D 10)))] s.heap := hP
  have hl := lv_entry ([.ref mo, .int n]) (n := 2) (Nat.le_of_ble_eq_true rfl)
  rw [lg_entry_eq]
  generalize (lg_sl ([.ref mo, .int n]) ++ List.replicate (2 - (lg_sl ([.ref mo, .int n])).length) Slot.unset).toArray = ls at hl ⊢
  have hl : lv_has ls 2 [(0, .ref mo), (1, .int n)] := hl
  refine lv_aload_n hx hb dX3_fail_0 rfl (lv_at hl 0 rfl) ?_
  refine lv_iload_n hx hb dX3_fail_1 rfl (lv_at hl 1 rfl) ?_
  refine va_put (D := G) (ci := 3) (v := .int n) (ty := .int) (C := RX3) (T := TX3) (N := 6) hx hb hts iX3_fail_X3 tyX3 tyX3_ok nmX3 hown hK hP hD hS 0 rfl rfl 0 (by decide) (hts (.fieldLink RX3 27 "GhostPantryModel" "thrown" "I") (by decide +kernel)) (fun _ h9 => h9) rfl (by decide +kernel) rfl rfl (Nat.le_of_ble_eq_true rfl) dX3_fail_2 (fun H_1 locs hP1 hD1 hS1 => ?_)
  clear hP hD hS
  have hP : va_P G vwCl [(mo, .inr (3, [.int n, .ref rr, .ref si, .ref nb, .ref ak, .ref ha])), (rr, .inl (cR, 7, .inr (.inr (.inr (.inr (RW [b0, b1, b2, b3, b4, b5, b6])))))), (si, .inl (cI, 7, .inl (D 0))), (nb, .inl (cI, 6, .inl (D 1))), (ak, .inl (cI, 30, .inl (D 2))), (ha, .inl (cI, 30, .inl (D 3))), (b0, .inl (cI, 31, .inl (D 4))), (b1, .inl (cI, 31, .inl (D 5))), (b2, .inl (cI, 31, .inl (D 6))), (b3, .inl (cI, 31, .inl (D 7))), (b4, .inl (cI, 31, .inl (D 8))), (b5, .inl (cI, 31, .inl (D 9))), (b6, .inl (cI, 31, .inl (D 10)))] H_1 := hP1
  have hD : va_D A [(mo, .inr (3, [.int n, .ref rr, .ref si, .ref nb, .ref ak, .ref ha])), (rr, .inl (cR, 7, .inr (.inr (.inr (.inr (RW [b0, b1, b2, b3, b4, b5, b6])))))), (si, .inl (cI, 7, .inl (D 0))), (nb, .inl (cI, 6, .inl (D 1))), (ak, .inl (cI, 30, .inl (D 2))), (ha, .inl (cI, 30, .inl (D 3))), (b0, .inl (cI, 31, .inl (D 4))), (b1, .inl (cI, 31, .inl (D 5))), (b2, .inl (cI, 31, .inl (D 6))), (b3, .inl (cI, 31, .inl (D 7))), (b4, .inl (cI, 31, .inl (D 8))), (b5, .inl (cI, 31, .inl (D 9))), (b6, .inl (cI, 31, .inl (D 10)))] := hD1
  have hS := hS1
  clear hP1 hD1 hS1
  refine lv_iconst (v := (nI 0)) hx hb dX3_fail_5 (by decide +kernel) ?_
  have hP9 := hP.sub (ws' := [(mo, .inr (3, [.int n, .ref rr, .ref si, .ref nb, .ref ak, .ref ha])), (rr, .inl (cR, 7, .inr (.inr (.inr (.inr (RW [b0, b1, b2, b3, b4, b5, b6])))))), (si, .inl (cI, 7, .inl (D 0))), (nb, .inl (cI, 6, .inl (D 1))), (ak, .inl (cI, 30, .inl (D 2))), (ha, .inl (cI, 30, .inl (D 3))), (b0, .inl (cI, 31, .inl (D 4))), (b1, .inl (cI, 31, .inl (D 5))), (b2, .inl (cI, 31, .inl (D 6))), (b3, .inl (cI, 31, .inl (D 7))), (b4, .inl (cI, 31, .inl (D 8))), (b5, .inl (cI, 31, .inl (D 9))), (b6, .inl (cI, 31, .inl (D 10)))]) [0, 1, 2, 3, 4, 5, 6, 7, 8, 9, 10, 11, 12] rfl
  have hD9 := hD.sub (ws' := [(mo, .inr (3, [.int n, .ref rr, .ref si, .ref nb, .ref ak, .ref ha])), (rr, .inl (cR, 7, .inr (.inr (.inr (.inr (RW [b0, b1, b2, b3, b4, b5, b6])))))), (si, .inl (cI, 7, .inl (D 0))), (nb, .inl (cI, 6, .inl (D 1))), (ak, .inl (cI, 30, .inl (D 2))), (ha, .inl (cI, 30, .inl (D 3))), (b0, .inl (cI, 31, .inl (D 4))), (b1, .inl (cI, 31, .inl (D 5))), (b2, .inl (cI, 31, .inl (D 6))), (b3, .inl (cI, 31, .inl (D 7))), (b4, .inl (cI, 31, .inl (D 8))), (b5, .inl (cI, 31, .inl (D 9))), (b6, .inl (cI, 31, .inl (D 10)))]) [0, 1, 2, 3, 4, 5, 6, 7, 8, 9, 10, 11, 12] (by decide) rfl
  exact W.iret (v := (nI 0)) hx hb hr (fun t ht hW => ⟨⟨(nI 0), (), rfl, rfl, g_at hP9 hK hD9 ht hW⟩, hS.F ht⟩) hS.2.2 dX3_fail_6

set_option maxHeartbeats 4000000 in
set_option maxRecDepth 100000 in
theorem c_X3_isIn_y (l : Launch) (G : va_G) (cI cR : ClassId)  (v lo hi : Int32) (hh : lo ≤ v ∧ v ≤ hi) (sz : Nat) : Met l yX3_isIn wsX3_isIn ({ frames := 0, cells := 0, slots := 0, locals := 0 }) (va_Pc [.int v, .int lo, .int hi] (gpre G [(cI, .int), (cR, .array .int)] [] sz)) (va_Qi (fun (z : Int32) (_ : Unit) => z = nI 1) (fun (_ : Unit) t => gat G [(cI, .int), (cR, .array .int)] (va_A [] sz) [] t) (va_A [] sz)) 0 0 (va_A [] sz) := by
  refine Met.ofW (cc := cX3_isIn) (maxL := 3) (ret := (some .boolean)) (by decide) rfl ?_
  intro p e s m args below meth c s₁ B hml hv
  obtain ⟨rfl, hsz, hP, hK, hD0⟩ := hv
  have hx := B.exec
  have hb := B.bytes
  have hr := B.returns
  have hts := atoms_spec (ws := wsX3_isIn) B.pre
  have hown : s.vm.findClass RX3 = some m.cls := findClass_of_methodNamed B.named
  have hlocks := B.notSynchronized
  subst hsz
  have hD := hD0.self (sz := s.heap.size)
  clear hD0
  generalize hAe : va_A [] s.heap.size = A at hD ⊢
  have hA : ∀ q : Nat, s.heap.size ≤ q → A q := fun q h => by rw [← hAe]; exact Or.inr h
  have hS : va_S A s.heap s.heap [] := va_S.rf
  have hP : va_P G vwCl [] s.heap := hP
  have hl := lv_entry ([.int v, .int lo, .int hi]) (n := 3) (Nat.le_of_ble_eq_true rfl)
  rw [lg_entry_eq]
  generalize (lg_sl ([.int v, .int lo, .int hi]) ++ List.replicate (3 - (lg_sl ([.int v, .int lo, .int hi])).length) Slot.unset).toArray = ls at hl ⊢
  have hl : lv_has ls 3 [(0, .int v), (1, .int lo), (2, .int hi)] := hl
  refine lv_iload_n hx hb dX3_isIn_0 rfl (lv_at hl 0 rfl) ?_
  refine lv_iload_n hx hb dX3_isIn_1 rfl (lv_at hl 1 rfl) ?_
  refine lv_icmp_lt (tgt := 14) hx hb dX3_isIn_2 (by decide) (fun c_1 => False.elim (by exact absurd c_1 (Int32.not_lt.mpr hh.1))) (fun c_1 => ?_)
  refine lv_iload_n hx hb dX3_isIn_5 rfl (lv_at hl 0 rfl) ?_
  refine lv_iload_n hx hb dX3_isIn_6 rfl (lv_at hl 2 rfl) ?_
  refine lv_icmp_gt (tgt := 14) hx hb dX3_isIn_7 (by decide) (fun c_2 => False.elim (by exact absurd c_2 (Int32.not_lt.mpr hh.2))) (fun c_2 => ?_)
  refine lv_iconst (v := (nI 1)) hx hb dX3_isIn_10 (by decide +kernel) ?_
  refine lv_goto (tgt := 15) hx hb dX3_isIn_11 (by decide) ?_
  have hP9 := hP.sub (ws' := []) [] rfl
  have hD9 := hD.sub (ws' := []) [] (by decide) rfl
  exact W.zret (v := (nI 1)) hx hb hr rfl (fun t ht hW => ⟨⟨(nI 1), (), rfl, rfl, g_at hP9 hK hD9 ht hW⟩, hS.F ht⟩) hS.2.2 dX3_isIn_15

set_option maxHeartbeats 4000000 in
set_option maxRecDepth 100000 in
theorem c_X3_isIn_n (l : Launch) (G : va_G) (cI cR : ClassId)  (v lo hi : Int32) (hh : ¬ (lo ≤ v ∧ v ≤ hi)) (sz : Nat) : Met l yX3_isIn wsX3_isIn ({ frames := 0, cells := 0, slots := 0, locals := 0 }) (va_Pc [.int v, .int lo, .int hi] (gpre G [(cI, .int), (cR, .array .int)] [] sz)) (va_Qi (fun (z : Int32) (_ : Unit) => z = nI 0) (fun (_ : Unit) t => gat G [(cI, .int), (cR, .array .int)] (va_A [] sz) [] t) (va_A [] sz)) 0 0 (va_A [] sz) := by
  refine Met.ofW (cc := cX3_isIn) (maxL := 3) (ret := (some .boolean)) (by decide) rfl ?_
  intro p e s m args below meth c s₁ B hml hv
  obtain ⟨rfl, hsz, hP, hK, hD0⟩ := hv
  have hx := B.exec
  have hb := B.bytes
  have hr := B.returns
  have hts := atoms_spec (ws := wsX3_isIn) B.pre
  have hown : s.vm.findClass RX3 = some m.cls := findClass_of_methodNamed B.named
  have hlocks := B.notSynchronized
  subst hsz
  have hD := hD0.self (sz := s.heap.size)
  clear hD0
  generalize hAe : va_A [] s.heap.size = A at hD ⊢
  have hA : ∀ q : Nat, s.heap.size ≤ q → A q := fun q h => by rw [← hAe]; exact Or.inr h
  have hS : va_S A s.heap s.heap [] := va_S.rf
  have hP : va_P G vwCl [] s.heap := hP
  have hl := lv_entry ([.int v, .int lo, .int hi]) (n := 3) (Nat.le_of_ble_eq_true rfl)
  rw [lg_entry_eq]
  generalize (lg_sl ([.int v, .int lo, .int hi]) ++ List.replicate (3 - (lg_sl ([.int v, .int lo, .int hi])).length) Slot.unset).toArray = ls at hl ⊢
  have hl : lv_has ls 3 [(0, .int v), (1, .int lo), (2, .int hi)] := hl
  refine lv_iload_n hx hb dX3_isIn_0 rfl (lv_at hl 0 rfl) ?_
  refine lv_iload_n hx hb dX3_isIn_1 rfl (lv_at hl 1 rfl) ?_
  refine lv_icmp_lt (tgt := 14) hx hb dX3_isIn_2 (by decide) (fun c_1 => ?_) (fun c_1 => ?_)
  · refine lv_iconst (v := (nI 0)) hx hb dX3_isIn_14 (by decide +kernel) ?_
    have hP9 := hP.sub (ws' := []) [] rfl
    have hD9 := hD.sub (ws' := []) [] (by decide) rfl
    exact W.zret (v := (nI 0)) hx hb hr rfl (fun t ht hW => ⟨⟨(nI 0), (), rfl, rfl, g_at hP9 hK hD9 ht hW⟩, hS.F ht⟩) hS.2.2 dX3_isIn_15
  · refine lv_iload_n hx hb dX3_isIn_5 rfl (lv_at hl 0 rfl) ?_
    refine lv_iload_n hx hb dX3_isIn_6 rfl (lv_at hl 2 rfl) ?_
    refine lv_icmp_gt (tgt := 14) hx hb dX3_isIn_7 (by decide) (fun c_2 => ?_) (fun c_2 => ?_)
    · refine lv_iconst (v := (nI 0)) hx hb dX3_isIn_14 (by decide +kernel) ?_
      have hP9 := hP.sub (ws' := []) [] rfl
      have hD9 := hD.sub (ws' := []) [] (by decide) rfl
      exact W.zret (v := (nI 0)) hx hb hr rfl (fun t ht hW => ⟨⟨(nI 0), (), rfl, rfl, g_at hP9 hK hD9 ht hW⟩, hS.F ht⟩) hS.2.2 dX3_isIn_15
    · refine lv_iconst (v := (nI 1)) hx hb dX3_isIn_10 (by decide +kernel) ?_
      refine lv_goto (tgt := 15) hx hb dX3_isIn_11 (by decide) ?_
      exact absurd (show lo ≤ v ∧ v ≤ hi from ⟨Int32.not_lt.mp (by assumption), Int32.not_lt.mp (by assumption)⟩) hh

set_option maxHeartbeats 4000000 in
set_option maxRecDepth 100000 in
theorem c_X3_isJar_y (l : Launch) (G : va_G) (cI cR : ClassId)  (jar : Int32) (hh : nI 0 ≤ jar ∧ jar ≤ nI 29) (sz : Nat) : Met l yX3_isJar wsX3_isJar ({ frames := 1, cells := 0, slots := 0, locals := 22 }) (va_Pc [.int jar] (gpre G [(cI, .int), (cR, .array .int)] [] sz)) (va_Qi (fun (z : Int32) (_ : Unit) => z = nI 1) (fun (_ : Unit) t => gat G [(cI, .int), (cR, .array .int)] (va_A [] sz) [] t) (va_A [] sz)) 0 0 (va_A [] sz) := by
  refine Met.ofW (cc := cX3_isJar) (maxL := 1) (ret := (some .boolean)) (by decide) rfl ?_
  intro p e s m args below meth c s₁ B hml hv
  obtain ⟨rfl, hsz, hP, hK, hD0⟩ := hv
  have hx := B.exec
  have hb := B.bytes
  have hr := B.returns
  have hts := atoms_spec (ws := wsX3_isJar) B.pre
  have hown : s.vm.findClass RX3 = some m.cls := findClass_of_methodNamed B.named
  have hlocks := B.notSynchronized
  subst hsz
  have hD := hD0.self (sz := s.heap.size)
  clear hD0
  generalize hAe : va_A [] s.heap.size = A at hD ⊢
  have hA : ∀ q : Nat, s.heap.size ≤ q → A q := fun q h => by rw [← hAe]; exact Or.inr h
  have hS : va_S A s.heap s.heap [] := va_S.rf
  have hP : va_P G vwCl [] s.heap := hP
  have hl := lv_entry ([.int jar]) (n := 1) (Nat.le_of_ble_eq_true rfl)
  rw [lg_entry_eq]
  generalize (lg_sl ([.int jar]) ++ List.replicate (1 - (lg_sl ([.int jar])).length) Slot.unset).toArray = ls at hl ⊢
  have hl : lv_has ls 1 [(0, .int jar)] := hl
  refine lv_iload_n hx hb dX3_isJar_0 rfl (lv_at hl 0 rfl) ?_
  refine lv_iconst (v := (nI 0)) hx hb dX3_isJar_1 (by decide +kernel) ?_
  refine lv_bipush (v := (nI 29)) hx hb dX3_isJar_2 (by decide +kernel) ?_
  have hPc := hP.sub (ws' := []) [] rfl
  have hDc := hD.sub (ws' := []) [] (by decide) rfl
  have hKc := hK.sub (tys' := [(cI, .int), (cR, .array .int)]) [0, 1] rfl
  have hFc := va_free (wc := []) hD hS hA [] rfl
  refine va_calli (va_runS (As := [.int jar, .int (nI 0), .int (nI 29)]) (rest := []) ⟨hx, hb, hml, hown, hts⟩ (c_X3_isIn_y l G cI cR jar (nI 0) (nI 29) hh s.heap.size) (va_cwS 3 hts gX3_isJar_X3_isIn rfl rfl rfl (by decide +kernel) ⟨Nat.le_of_ble_eq_true rfl, Nat.le_of_ble_eq_true rfl⟩) (g_preS (As := [.int jar, .int (nI 0), .int (nI 29)]) hPc hKc hDc) rfl rfl hl.1 rfl (lv_room (Nat.le_of_ble_eq_true rfl)) dX3_isJar_4 ⟨(Nat.le_of_ble_eq_true rfl), (Nat.le_of_ble_eq_true rfl)⟩) hS (fun q _ h => hFc q h) hFc (fun r_2 u_3 t H_1 locs ht hvm hw hB hz1 hk1 hS1 => ?_)
  subst hw
  obtain ⟨hP1, hD1⟩ := g_join (wc := []) (wr := []) (w1 := []) hP hD [] [] rfl rfl (by decide) (by decide) ht hk1 hFc hB
  clear hB hk1 hz1 hvm ht hPc hDc hKc hFc
  clear hP hD hS
  have hP : va_P G vwCl [] H_1 := hP1
  have hD : va_D A [] := hD1
  have hS := hS1
  clear hP1 hD1 hS1
  have hP9 := hP.sub (ws' := []) [] rfl
  have hD9 := hD.sub (ws' := []) [] (by decide) rfl
  exact W.zret (v := (nI 1)) hx hb hr rfl (fun t ht hW => ⟨⟨(nI 1), (), rfl, rfl, g_at hP9 hK hD9 ht hW⟩, hS.F ht⟩) hS.2.2 dX3_isJar_7

set_option maxHeartbeats 4000000 in
set_option maxRecDepth 100000 in
theorem c_X3_isJar_n (l : Launch) (G : va_G) (cI cR : ClassId)  (jar : Int32) (hh : ¬ (nI 0 ≤ jar ∧ jar ≤ nI 29)) (sz : Nat) : Met l yX3_isJar wsX3_isJar ({ frames := 1, cells := 0, slots := 0, locals := 22 }) (va_Pc [.int jar] (gpre G [(cI, .int), (cR, .array .int)] [] sz)) (va_Qi (fun (z : Int32) (_ : Unit) => z = nI 0) (fun (_ : Unit) t => gat G [(cI, .int), (cR, .array .int)] (va_A [] sz) [] t) (va_A [] sz)) 0 0 (va_A [] sz) := by
  refine Met.ofW (cc := cX3_isJar) (maxL := 1) (ret := (some .boolean)) (by decide) rfl ?_
  intro p e s m args below meth c s₁ B hml hv
  obtain ⟨rfl, hsz, hP, hK, hD0⟩ := hv
  have hx := B.exec
  have hb := B.bytes
  have hr := B.returns
  have hts := atoms_spec (ws := wsX3_isJar) B.pre
  have hown : s.vm.findClass RX3 = some m.cls := findClass_of_methodNamed B.named
  have hlocks := B.notSynchronized
  subst hsz
  have hD := hD0.self (sz := s.heap.size)
  clear hD0
  generalize hAe : va_A [] s.heap.size = A at hD ⊢
  have hA : ∀ q : Nat, s.heap.size ≤ q → A q := fun q h => by rw [← hAe]; exact Or.inr h
  have hS : va_S A s.heap s.heap [] := va_S.rf
  have hP : va_P G vwCl [] s.heap := hP
  have hl := lv_entry ([.int jar]) (n := 1) (Nat.le_of_ble_eq_true rfl)
  rw [lg_entry_eq]
  generalize (lg_sl ([.int jar]) ++ List.replicate (1 - (lg_sl ([.int jar])).length) Slot.unset).toArray = ls at hl ⊢
  have hl : lv_has ls 1 [(0, .int jar)] := hl
  refine lv_iload_n hx hb dX3_isJar_0 rfl (lv_at hl 0 rfl) ?_
  refine lv_iconst (v := (nI 0)) hx hb dX3_isJar_1 (by decide +kernel) ?_
  refine lv_bipush (v := (nI 29)) hx hb dX3_isJar_2 (by decide +kernel) ?_
  have hPc := hP.sub (ws' := []) [] rfl
  have hDc := hD.sub (ws' := []) [] (by decide) rfl
  have hKc := hK.sub (tys' := [(cI, .int), (cR, .array .int)]) [0, 1] rfl
  have hFc := va_free (wc := []) hD hS hA [] rfl
  refine va_calli (va_runS (As := [.int jar, .int (nI 0), .int (nI 29)]) (rest := []) ⟨hx, hb, hml, hown, hts⟩ (c_X3_isIn_n l G cI cR jar (nI 0) (nI 29) hh s.heap.size) (va_cwS 3 hts gX3_isJar_X3_isIn rfl rfl rfl (by decide +kernel) ⟨Nat.le_of_ble_eq_true rfl, Nat.le_of_ble_eq_true rfl⟩) (g_preS (As := [.int jar, .int (nI 0), .int (nI 29)]) hPc hKc hDc) rfl rfl hl.1 rfl (lv_room (Nat.le_of_ble_eq_true rfl)) dX3_isJar_4 ⟨(Nat.le_of_ble_eq_true rfl), (Nat.le_of_ble_eq_true rfl)⟩) hS (fun q _ h => hFc q h) hFc (fun r_2 u_3 t H_1 locs ht hvm hw hB hz1 hk1 hS1 => ?_)
  subst hw
  obtain ⟨hP1, hD1⟩ := g_join (wc := []) (wr := []) (w1 := []) hP hD [] [] rfl rfl (by decide) (by decide) ht hk1 hFc hB
  clear hB hk1 hz1 hvm ht hPc hDc hKc hFc
  clear hP hD hS
  have hP : va_P G vwCl [] H_1 := hP1
  have hD : va_D A [] := hD1
  have hS := hS1
  clear hP1 hD1 hS1
  have hP9 := hP.sub (ws' := []) [] rfl
  have hD9 := hD.sub (ws' := []) [] (by decide) rfl
  exact W.zret (v := (nI 0)) hx hb hr rfl (fun t ht hW => ⟨⟨(nI 0), (), rfl, rfl, g_at hP9 hK hD9 ht hW⟩, hS.F ht⟩) hS.2.2 dX3_isJar_7

set_option maxRecDepth 20000 in
theorem iX3_find_X3 : ∀ w ∈ wsX30, w ∈ wsX3_find := by decide +kernel
set_option maxHeartbeats 4000000 in
set_option maxRecDepth 100000 in
theorem c_X3_find_1 (l : Launch) (G : va_G) (cI cR : ClassId) (mo rr si nb ak ha b0 b1 b2 b3 b4 b5 b6 : Nat) (th : Int32) (D : Nat → Nat → Int32) (L1 L2 L3 L4 P M : List Int32) (rc bo : Nat) (nA nH nP nM : Int32) (KA TA : Nat → Int32) (hM : MOK D rc M ((L1, L2, L3, L4), P, bo, nA, nH, nP, nM, KA, TA)) (jar : Int32) (hb1 : L1.length ≤ 30) (sz : Nat) : Met l yX3_find wsX3_find ({ frames := 0, cells := 0, slots := 0, locals := 0 }) (va_Pc [.ref mo, .int (nI 1), .int jar] (gpre G [(cI, .int), (cR, .array .int)] [(mo, .inr (3, [.int th, .ref rr, .ref si, .ref nb, .ref ak, .ref ha])), (rr, .inl (cR, 7, .inr (.inr (.inr (.inr (RW [b0, b1, b2, b3, b4, b5, b6])))))), (si, .inl (cI, 7, .inl (D 0))), (nb, .inl (cI, 6, .inl (D 1))), (ak, .inl (cI, 30, .inl (D 2))), (ha, .inl (cI, 30, .inl (D 3))), (b0, .inl (cI, 31, .inl (D 4))), (b1, .inl (cI, 31, .inl (D 5))), (b2, .inl (cI, 31, .inl (D 6))), (b3, .inl (cI, 31, .inl (D 7))), (b4, .inl (cI, 31, .inl (D 8))), (b5, .inl (cI, 31, .inl (D 9))), (b6, .inl (cI, 31, .inl (D 10)))] sz)) (va_Qi (fun (z : Int32) (_ : Unit) => z = pos L1 jar) (fun (_ : Unit) t => gat G [(cI, .int), (cR, .array .int)] (va_A [(mo, .inr (3, [.int th, .ref rr, .ref si, .ref nb, .ref ak, .ref ha])), (rr, .inl (cR, 7, .inr (.inr (.inr (.inr (RW [b0, b1, b2, b3, b4, b5, b6])))))), (si, .inl (cI, 7, .inl (D 0))), (nb, .inl (cI, 6, .inl (D 1))), (ak, .inl (cI, 30, .inl (D 2))), (ha, .inl (cI, 30, .inl (D 3))), (b0, .inl (cI, 31, .inl (D 4))), (b1, .inl (cI, 31, .inl (D 5))), (b2, .inl (cI, 31, .inl (D 6))), (b3, .inl (cI, 31, .inl (D 7))), (b4, .inl (cI, 31, .inl (D 8))), (b5, .inl (cI, 31, .inl (D 9))), (b6, .inl (cI, 31, .inl (D 10)))] sz) [(mo, .inr (3, [.int th, .ref rr, .ref si, .ref nb, .ref ak, .ref ha])), (rr, .inl (cR, 7, .inr (.inr (.inr (.inr (RW [b0, b1, b2, b3, b4, b5, b6])))))), (si, .inl (cI, 7, .inl (D 0))), (nb, .inl (cI, 6, .inl (D 1))), (ak, .inl (cI, 30, .inl (D 2))), (ha, .inl (cI, 30, .inl (D 3))), (b0, .inl (cI, 31, .inl (D 4))), (b1, .inl (cI, 31, .inl (D 5))), (b2, .inl (cI, 31, .inl (D 6))), (b3, .inl (cI, 31, .inl (D 7))), (b4, .inl (cI, 31, .inl (D 8))), (b5, .inl (cI, 31, .inl (D 9))), (b6, .inl (cI, 31, .inl (D 10)))] t) (va_A [(mo, .inr (3, [.int th, .ref rr, .ref si, .ref nb, .ref ak, .ref ha])), (rr, .inl (cR, 7, .inr (.inr (.inr (.inr (RW [b0, b1, b2, b3, b4, b5, b6])))))), (si, .inl (cI, 7, .inl (D 0))), (nb, .inl (cI, 6, .inl (D 1))), (ak, .inl (cI, 30, .inl (D 2))), (ha, .inl (cI, 30, .inl (D 3))), (b0, .inl (cI, 31, .inl (D 4))), (b1, .inl (cI, 31, .inl (D 5))), (b2, .inl (cI, 31, .inl (D 6))), (b3, .inl (cI, 31, .inl (D 7))), (b4, .inl (cI, 31, .inl (D 8))), (b5, .inl (cI, 31, .inl (D 9))), (b6, .inl (cI, 31, .inl (D 10)))] sz)) 0 0 (va_A [(mo, .inr (3, [.int th, .ref rr, .ref si, .ref nb, .ref ak, .ref ha])), (rr, .inl (cR, 7, .inr (.inr (.inr (.inr (RW [b0, b1, b2, b3, b4, b5, b6])))))), (si, .inl (cI, 7, .inl (D 0))), (nb, .inl (cI, 6, .inl (D 1))), (ak, .inl (cI, 30, .inl (D 2))), (ha, .inl (cI, 30, .inl (D 3))), (b0, .inl (cI, 31, .inl (D 4))), (b1, .inl (cI, 31, .inl (D 5))), (b2, .inl (cI, 31, .inl (D 6))), (b3, .inl (cI, 31, .inl (D 7))), (b4, .inl (cI, 31, .inl (D 8))), (b5, .inl (cI, 31, .inl (D 9))), (b6, .inl (cI, 31, .inl (D 10)))] sz) := by
  refine Met.ofW (cc := cX3_find) (maxL := 4) (ret := (some .int)) (by decide) rfl ?_
  intro p e s m args below meth c s₁ B hml hv
  obtain ⟨rfl, hsz, hP, hK, hD0⟩ := hv
  have hx := B.exec
  have hb := B.bytes
  have hr := B.returns
  have hts := atoms_spec (ws := wsX3_find) B.pre
  have hown : s.vm.findClass RX3 = some m.cls := findClass_of_methodNamed B.named
  have hlocks := B.notSynchronized
  subst hsz
  have hD := hD0.self (sz := s.heap.size)
  clear hD0
  generalize hAe : va_A [(mo, .inr (3, [.int th, .ref rr, .ref si, .ref nb, .ref ak, .ref ha])), (rr, .inl (cR, 7, .inr (.inr (.inr (.inr (RW [b0, b1, b2, b3, b4, b5, b6])))))), (si, .inl (cI, 7, .inl (D 0))), (nb, .inl (cI, 6, .inl (D 1))), (ak, .inl (cI, 30, .inl (D 2))), (ha, .inl (cI, 30, .inl (D 3))), (b0, .inl (cI, 31, .inl (D 4))), (b1, .inl (cI, 31, .inl (D 5))), (b2, .inl (cI, 31, .inl (D 6))), (b3, .inl (cI, 31, .inl (D 7))), (b4, .inl (cI, 31, .inl (D 8))), (b5, .inl (cI, 31, .inl (D 9))), (b6, .inl (cI, 31, .inl (D 10)))] s.heap.size = A at hD ⊢
  have hA : ∀ q : Nat, s.heap.size ≤ q → A q := fun q h => by rw [← hAe]; exact Or.inr h
  have hS : va_S A s.heap s.heap [] := va_S.rf
  have hP : va_P G vwCl [(mo, .inr (3, [.int th, .ref rr, .ref si, .ref nb, .ref ak, .ref ha])), (rr, .inl (cR, 7, .inr (.inr (.inr (.inr (RW [b0, b1, b2, b3, b4, b5, b6])))))), (si, .inl (cI, 7, .inl (D 0))), (nb, .inl (cI, 6, .inl (D 1))), (ak, .inl (cI, 30, .inl (D 2))), (ha, .inl (cI, 30, .inl (D 3))), (b0, .inl (cI, 31, .inl (D 4))), (b1, .inl (cI, 31, .inl (D 5))), (b2, .inl (cI, 31, .inl (D 6))), (b3, .inl (cI, 31, .inl (D 7))), (b4, .inl (cI, 31, .inl (D 8))), (b5, .inl (cI, 31, .inl (D 9))), (b6, .inl (cI, 31, .inl (D 10)))] s.heap := hP
  have hl := lv_entry ([.ref mo, .int (nI 1), .int jar]) (n := 4) (Nat.le_of_ble_eq_true rfl)
  rw [lg_entry_eq]
  generalize (lg_sl ([.ref mo, .int (nI 1), .int jar]) ++ List.replicate (4 - (lg_sl ([.ref mo, .int (nI 1), .int jar])).length) Slot.unset).toArray = ls at hl ⊢
  have hl : lv_has ls 4 [(0, .ref mo), (1, .int (nI 1)), (2, .int jar)] := hl
  refine lv_iconst (v := (nI 0)) hx hb dX3_find_0 (by decide +kernel) ?_
  refine lv_istore_n (lv' := [(3, .int (nI 0)), (0, .ref mo), (1, .int (nI 1)), (2, .int jar)]) hx hb dX3_find_1 rfl hl (by decide) rfl (fun ls hl => ?_)
  obtain ⟨i, ei⟩ : ∃ i : Nat, i = 0 := ⟨0, rfl⟩
  have hl2 : lv_has ls 4 [(3, .int (nI i)), (0, .ref mo), (1, .int (nI 1)), (2, .int jar)] := by rw [ei]; exact hl
  clear hl
  have hl := hl2
  clear hl2
  have hi : i ≤ L1.length := by omega
  have hk : ∀ k, k < i → L1.getD k 0 ≠ jar := fun k hk => absurd hk (by omega)
  clear ei
  obtain ⟨n, hn9⟩ : ∃ n : Nat, L1.length - i < n := ⟨_, Nat.lt_succ_self _⟩
  induction n generalizing i ls with
  | zero => exact absurd hn9 (Nat.not_lt_zero _)
  | succ n ih =>
    refine lv_iload_n hx hb dX3_find_2 rfl (lv_at hl 0 rfl) ?_
    refine lv_aload_n hx hb dX3_find_3 rfl (lv_at hl 1 rfl) ?_
    refine va_get (D := G) (ci := 3) (v := .ref si) (C := RX3) (T := TX3) (N := 6) hx hb hts iX3_find_X3 hown hK hP 0 rfl rfl 2 (by decide) (hts (.fieldLink RX3 14 "GhostPantryModel" "sizes" "[I") (by decide +kernel)) (fun _ h9 => h9) rfl dX3_find_4 ?_
    refine lv_iload_n hx hb dX3_find_7 rfl (lv_at hl 2 rfl) ?_
    refine g_iald hx hb hK hP 2 0 rfl rfl (i := 1) (by decide) (by decide) dX3_find_8 (v := (nI L1.length)) (hM.2.2.2.2.2.2.1) ?_
    refine g_icmp_ge (tgt := 32) hx hb dX3_find_9 (by decide) (by omega) (by omega) (fun c_1 => ?_) (fun c_1 => ?_)
    · refine lv_iconst (v := (-1)) hx hb dX3_find_32 (by decide +kernel) ?_
      have hP9 := hP.sub (ws' := [(mo, .inr (3, [.int th, .ref rr, .ref si, .ref nb, .ref ak, .ref ha])), (rr, .inl (cR, 7, .inr (.inr (.inr (.inr (RW [b0, b1, b2, b3, b4, b5, b6])))))), (si, .inl (cI, 7, .inl (D 0))), (nb, .inl (cI, 6, .inl (D 1))), (ak, .inl (cI, 30, .inl (D 2))), (ha, .inl (cI, 30, .inl (D 3))), (b0, .inl (cI, 31, .inl (D 4))), (b1, .inl (cI, 31, .inl (D 5))), (b2, .inl (cI, 31, .inl (D 6))), (b3, .inl (cI, 31, .inl (D 7))), (b4, .inl (cI, 31, .inl (D 8))), (b5, .inl (cI, 31, .inl (D 9))), (b6, .inl (cI, 31, .inl (D 10)))]) [0, 1, 2, 3, 4, 5, 6, 7, 8, 9, 10, 11, 12] rfl
      have hD9 := hD.sub (ws' := [(mo, .inr (3, [.int th, .ref rr, .ref si, .ref nb, .ref ak, .ref ha])), (rr, .inl (cR, 7, .inr (.inr (.inr (.inr (RW [b0, b1, b2, b3, b4, b5, b6])))))), (si, .inl (cI, 7, .inl (D 0))), (nb, .inl (cI, 6, .inl (D 1))), (ak, .inl (cI, 30, .inl (D 2))), (ha, .inl (cI, 30, .inl (D 3))), (b0, .inl (cI, 31, .inl (D 4))), (b1, .inl (cI, 31, .inl (D 5))), (b2, .inl (cI, 31, .inl (D 6))), (b3, .inl (cI, 31, .inl (D 7))), (b4, .inl (cI, 31, .inl (D 8))), (b5, .inl (cI, 31, .inl (D 9))), (b6, .inl (cI, 31, .inl (D 10)))]) [0, 1, 2, 3, 4, 5, 6, 7, 8, 9, 10, 11, 12] (by decide) rfl
      exact W.iret (v := (-1)) hx hb hr (fun t ht hW => ⟨⟨(-1), (), rfl, (pos_no (fun k hk9 => hk k (by omega))).symm, g_at hP9 hK hD9 ht hW⟩, hS.F ht⟩) hS.2.2 dX3_find_33
    · refine lv_aload_n hx hb dX3_find_12 rfl (lv_at hl 1 rfl) ?_
      refine va_get (D := G) (ci := 3) (v := .ref rr) (C := RX3) (T := TX3) (N := 6) hx hb hts iX3_find_X3 hown hK hP 0 rfl rfl 1 (by decide) (hts (.fieldLink RX3 11 "GhostPantryModel" "rows" "[[I") (by decide +kernel)) (fun _ h9 => h9) rfl dX3_find_13 ?_
      refine lv_iload_n hx hb dX3_find_16 rfl (lv_at hl 2 rfl) ?_
      refine g_aald hx hb hK hP 1 1 rfl rfl (i := 1) (by decide) (by decide) dX3_find_17 (b := b1) (rfl) ?_
      refine lv_iload_n hx hb dX3_find_18 rfl (lv_at hl 0 rfl) ?_
      refine g_iald hx hb hK hP 7 0 rfl rfl (i := i) (by omega) (by decide) dX3_find_19 (v := (L1.getD i 0)) ((show Rw _ L1 from hM.1) _ (by omega)) ?_
      refine lv_iload_n hx hb dX3_find_20 rfl (lv_at hl 3 rfl) ?_
      refine lv_icmp_ne (tgt := 26) hx hb dX3_find_21 (by decide) (fun c_2 => ?_) (fun c_2 => ?_)
      · refine lv_iinc (v := (nI (i + 1))) (lv' := [(3, .int (nI (i + 1))), (0, .ref mo), (1, .int (nI 1)), (2, .int jar)]) hx hb dX3_find_26 hl (k := 0) rfl (nI_1 _) (by decide) rfl (fun ls hl => ?_)
        refine lv_goto (tgt := 2) hx hb dX3_find_29 (by decide) ?_
        have hk2 : ∀ k, k < i + 1 → L1.getD k 0 ≠ jar := fun k hk9 => by
          rcases Nat.lt_or_ge k i with z | z
          · exact hk k z
          · have e : k = i := by omega
            rw [e]; assumption
        have hl9 := lv_sub (l' := [(3, .int (nI (i + 1))), (0, .ref mo), (1, .int (nI 1)), (2, .int jar)]) hl [0, 1, 2, 3] rfl
        first | exact ih ls (i + 1) hl9 (by omega) hk2 (by omega) | exact ih (i + 1) ls hl9 (by omega) hk2 (by omega)
      · refine lv_iload_n hx hb dX3_find_24 rfl (lv_at hl 0 rfl) ?_
        have hP9 := hP.sub (ws' := [(mo, .inr (3, [.int th, .ref rr, .ref si, .ref nb, .ref ak, .ref ha])), (rr, .inl (cR, 7, .inr (.inr (.inr (.inr (RW [b0, b1, b2, b3, b4, b5, b6])))))), (si, .inl (cI, 7, .inl (D 0))), (nb, .inl (cI, 6, .inl (D 1))), (ak, .inl (cI, 30, .inl (D 2))), (ha, .inl (cI, 30, .inl (D 3))), (b0, .inl (cI, 31, .inl (D 4))), (b1, .inl (cI, 31, .inl (D 5))), (b2, .inl (cI, 31, .inl (D 6))), (b3, .inl (cI, 31, .inl (D 7))), (b4, .inl (cI, 31, .inl (D 8))), (b5, .inl (cI, 31, .inl (D 9))), (b6, .inl (cI, 31, .inl (D 10)))]) [0, 1, 2, 3, 4, 5, 6, 7, 8, 9, 10, 11, 12] rfl
        have hD9 := hD.sub (ws' := [(mo, .inr (3, [.int th, .ref rr, .ref si, .ref nb, .ref ak, .ref ha])), (rr, .inl (cR, 7, .inr (.inr (.inr (.inr (RW [b0, b1, b2, b3, b4, b5, b6])))))), (si, .inl (cI, 7, .inl (D 0))), (nb, .inl (cI, 6, .inl (D 1))), (ak, .inl (cI, 30, .inl (D 2))), (ha, .inl (cI, 30, .inl (D 3))), (b0, .inl (cI, 31, .inl (D 4))), (b1, .inl (cI, 31, .inl (D 5))), (b2, .inl (cI, 31, .inl (D 6))), (b3, .inl (cI, 31, .inl (D 7))), (b4, .inl (cI, 31, .inl (D 8))), (b5, .inl (cI, 31, .inl (D 9))), (b6, .inl (cI, 31, .inl (D 10)))]) [0, 1, 2, 3, 4, 5, 6, 7, 8, 9, 10, 11, 12] (by decide) rfl
        exact W.iret (v := (nI i)) hx hb hr (fun t ht hW => ⟨⟨(nI i), (), rfl, (pos_at (by omega) hk (by assumption)).symm, g_at hP9 hK hD9 ht hW⟩, hS.F ht⟩) hS.2.2 dX3_find_25

set_option maxHeartbeats 4000000 in
set_option maxRecDepth 100000 in
theorem c_X3_find_2 (l : Launch) (G : va_G) (cI cR : ClassId) (mo rr si nb ak ha b0 b1 b2 b3 b4 b5 b6 : Nat) (th : Int32) (D : Nat → Nat → Int32) (L1 L2 L3 L4 P M : List Int32) (rc bo : Nat) (nA nH nP nM : Int32) (KA TA : Nat → Int32) (hM : MOK D rc M ((L1, L2, L3, L4), P, bo, nA, nH, nP, nM, KA, TA)) (jar : Int32) (hb2 : L2.length ≤ 30) (sz : Nat) : Met l yX3_find wsX3_find ({ frames := 0, cells := 0, slots := 0, locals := 0 }) (va_Pc [.ref mo, .int (nI 2), .int jar] (gpre G [(cI, .int), (cR, .array .int)] [(mo, .inr (3, [.int th, .ref rr, .ref si, .ref nb, .ref ak, .ref ha])), (rr, .inl (cR, 7, .inr (.inr (.inr (.inr (RW [b0, b1, b2, b3, b4, b5, b6])))))), (si, .inl (cI, 7, .inl (D 0))), (nb, .inl (cI, 6, .inl (D 1))), (ak, .inl (cI, 30, .inl (D 2))), (ha, .inl (cI, 30, .inl (D 3))), (b0, .inl (cI, 31, .inl (D 4))), (b1, .inl (cI, 31, .inl (D 5))), (b2, .inl (cI, 31, .inl (D 6))), (b3, .inl (cI, 31, .inl (D 7))), (b4, .inl (cI, 31, .inl (D 8))), (b5, .inl (cI, 31, .inl (D 9))), (b6, .inl (cI, 31, .inl (D 10)))] sz)) (va_Qi (fun (z : Int32) (_ : Unit) => z = pos L2 jar) (fun (_ : Unit) t => gat G [(cI, .int), (cR, .array .int)] (va_A [(mo, .inr (3, [.int th, .ref rr, .ref si, .ref nb, .ref ak, .ref ha])), (rr, .inl (cR, 7, .inr (.inr (.inr (.inr (RW [b0, b1, b2, b3, b4, b5, b6])))))), (si, .inl (cI, 7, .inl (D 0))), (nb, .inl (cI, 6, .inl (D 1))), (ak, .inl (cI, 30, .inl (D 2))), (ha, .inl (cI, 30, .inl (D 3))), (b0, .inl (cI, 31, .inl (D 4))), (b1, .inl (cI, 31, .inl (D 5))), (b2, .inl (cI, 31, .inl (D 6))), (b3, .inl (cI, 31, .inl (D 7))), (b4, .inl (cI, 31, .inl (D 8))), (b5, .inl (cI, 31, .inl (D 9))), (b6, .inl (cI, 31, .inl (D 10)))] sz) [(mo, .inr (3, [.int th, .ref rr, .ref si, .ref nb, .ref ak, .ref ha])), (rr, .inl (cR, 7, .inr (.inr (.inr (.inr (RW [b0, b1, b2, b3, b4, b5, b6])))))), (si, .inl (cI, 7, .inl (D 0))), (nb, .inl (cI, 6, .inl (D 1))), (ak, .inl (cI, 30, .inl (D 2))), (ha, .inl (cI, 30, .inl (D 3))), (b0, .inl (cI, 31, .inl (D 4))), (b1, .inl (cI, 31, .inl (D 5))), (b2, .inl (cI, 31, .inl (D 6))), (b3, .inl (cI, 31, .inl (D 7))), (b4, .inl (cI, 31, .inl (D 8))), (b5, .inl (cI, 31, .inl (D 9))), (b6, .inl (cI, 31, .inl (D 10)))] t) (va_A [(mo, .inr (3, [.int th, .ref rr, .ref si, .ref nb, .ref ak, .ref ha])), (rr, .inl (cR, 7, .inr (.inr (.inr (.inr (RW [b0, b1, b2, b3, b4, b5, b6])))))), (si, .inl (cI, 7, .inl (D 0))), (nb, .inl (cI, 6, .inl (D 1))), (ak, .inl (cI, 30, .inl (D 2))), (ha, .inl (cI, 30, .inl (D 3))), (b0, .inl (cI, 31, .inl (D 4))), (b1, .inl (cI, 31, .inl (D 5))), (b2, .inl (cI, 31, .inl (D 6))), (b3, .inl (cI, 31, .inl (D 7))), (b4, .inl (cI, 31, .inl (D 8))), (b5, .inl (cI, 31, .inl (D 9))), (b6, .inl (cI, 31, .inl (D 10)))] sz)) 0 0 (va_A [(mo, .inr (3, [.int th, .ref rr, .ref si, .ref nb, .ref ak, .ref ha])), (rr, .inl (cR, 7, .inr (.inr (.inr (.inr (RW [b0, b1, b2, b3, b4, b5, b6])))))), (si, .inl (cI, 7, .inl (D 0))), (nb, .inl (cI, 6, .inl (D 1))), (ak, .inl (cI, 30, .inl (D 2))), (ha, .inl (cI, 30, .inl (D 3))), (b0, .inl (cI, 31, .inl (D 4))), (b1, .inl (cI, 31, .inl (D 5))), (b2, .inl (cI, 31, .inl (D 6))), (b3, .inl (cI, 31, .inl (D 7))), (b4, .inl (cI, 31, .inl (D 8))), (b5, .inl (cI, 31, .inl (D 9))), (b6, .inl (cI, 31, .inl (D 10)))] sz) := by
  refine Met.ofW (cc := cX3_find) (maxL := 4) (ret := (some .int)) (by decide) rfl ?_
  intro p e s m args below meth c s₁ B hml hv
  obtain ⟨rfl, hsz, hP, hK, hD0⟩ := hv
  have hx := B.exec
  have hb := B.bytes
  have hr := B.returns
  have hts := atoms_spec (ws := wsX3_find) B.pre
  have hown : s.vm.findClass RX3 = some m.cls := findClass_of_methodNamed B.named
  have hlocks := B.notSynchronized
  subst hsz
  have hD := hD0.self (sz := s.heap.size)
  clear hD0
  generalize hAe : va_A [(mo, .inr (3, [.int th, .ref rr, .ref si, .ref nb, .ref ak, .ref ha])), (rr, .inl (cR, 7, .inr (.inr (.inr (.inr (RW [b0, b1, b2, b3, b4, b5, b6])))))), (si, .inl (cI, 7, .inl (D 0))), (nb, .inl (cI, 6, .inl (D 1))), (ak, .inl (cI, 30, .inl (D 2))), (ha, .inl (cI, 30, .inl (D 3))), (b0, .inl (cI, 31, .inl (D 4))), (b1, .inl (cI, 31, .inl (D 5))), (b2, .inl (cI, 31, .inl (D 6))), (b3, .inl (cI, 31, .inl (D 7))), (b4, .inl (cI, 31, .inl (D 8))), (b5, .inl (cI, 31, .inl (D 9))), (b6, .inl (cI, 31, .inl (D 10)))] s.heap.size = A at hD ⊢
  have hA : ∀ q : Nat, s.heap.size ≤ q → A q := fun q h => by rw [← hAe]; exact Or.inr h
  have hS : va_S A s.heap s.heap [] := va_S.rf
  have hP : va_P G vwCl [(mo, .inr (3, [.int th, .ref rr, .ref si, .ref nb, .ref ak, .ref ha])), (rr, .inl (cR, 7, .inr (.inr (.inr (.inr (RW [b0, b1, b2, b3, b4, b5, b6])))))), (si, .inl (cI, 7, .inl (D 0))), (nb, .inl (cI, 6, .inl (D 1))), (ak, .inl (cI, 30, .inl (D 2))), (ha, .inl (cI, 30, .inl (D 3))), (b0, .inl (cI, 31, .inl (D 4))), (b1, .inl (cI, 31, .inl (D 5))), (b2, .inl (cI, 31, .inl (D 6))), (b3, .inl (cI, 31, .inl (D 7))), (b4, .inl (cI, 31, .inl (D 8))), (b5, .inl (cI, 31, .inl (D 9))), (b6, .inl (cI, 31, .inl (D 10)))] s.heap := hP
  have hl := lv_entry ([.ref mo, .int (nI 2), .int jar]) (n := 4) (Nat.le_of_ble_eq_true rfl)
  rw [lg_entry_eq]
  generalize (lg_sl ([.ref mo, .int (nI 2), .int jar]) ++ List.replicate (4 - (lg_sl ([.ref mo, .int (nI 2), .int jar])).length) Slot.unset).toArray = ls at hl ⊢
  have hl : lv_has ls 4 [(0, .ref mo), (1, .int (nI 2)), (2, .int jar)] := hl
  refine lv_iconst (v := (nI 0)) hx hb dX3_find_0 (by decide +kernel) ?_
  refine lv_istore_n (lv' := [(3, .int (nI 0)), (0, .ref mo), (1, .int (nI 2)), (2, .int jar)]) hx hb dX3_find_1 rfl hl (by decide) rfl (fun ls hl => ?_)
  obtain ⟨i, ei⟩ : ∃ i : Nat, i = 0 := ⟨0, rfl⟩
  have hl2 : lv_has ls 4 [(3, .int (nI i)), (0, .ref mo), (1, .int (nI 2)), (2, .int jar)] := by rw [ei]; exact hl
  clear hl
  have hl := hl2
  clear hl2
  have hi : i ≤ L2.length := by omega
  have hk : ∀ k, k < i → L2.getD k 0 ≠ jar := fun k hk => absurd hk (by omega)
  clear ei
  obtain ⟨n, hn9⟩ : ∃ n : Nat, L2.length - i < n := ⟨_, Nat.lt_succ_self _⟩
  induction n generalizing i ls with
  | zero => exact absurd hn9 (Nat.not_lt_zero _)
  | succ n ih =>
    refine lv_iload_n hx hb dX3_find_2 rfl (lv_at hl 0 rfl) ?_
    refine lv_aload_n hx hb dX3_find_3 rfl (lv_at hl 1 rfl) ?_
    refine va_get (D := G) (ci := 3) (v := .ref si) (C := RX3) (T := TX3) (N := 6) hx hb hts iX3_find_X3 hown hK hP 0 rfl rfl 2 (by decide) (hts (.fieldLink RX3 14 "GhostPantryModel" "sizes" "[I") (by decide +kernel)) (fun _ h9 => h9) rfl dX3_find_4 ?_
    refine lv_iload_n hx hb dX3_find_7 rfl (lv_at hl 2 rfl) ?_
    refine g_iald hx hb hK hP 2 0 rfl rfl (i := 2) (by decide) (by decide) dX3_find_8 (v := (nI L2.length)) (hM.2.2.2.2.2.2.2.1) ?_
    refine g_icmp_ge (tgt := 32) hx hb dX3_find_9 (by decide) (by omega) (by omega) (fun c_1 => ?_) (fun c_1 => ?_)
    · refine lv_iconst (v := (-1)) hx hb dX3_find_32 (by decide +kernel) ?_
      have hP9 := hP.sub (ws' := [(mo, .inr (3, [.int th, .ref rr, .ref si, .ref nb, .ref ak, .ref ha])), (rr, .inl (cR, 7, .inr (.inr (.inr (.inr (RW [b0, b1, b2, b3, b4, b5, b6])))))), (si, .inl (cI, 7, .inl (D 0))), (nb, .inl (cI, 6, .inl (D 1))), (ak, .inl (cI, 30, .inl (D 2))), (ha, .inl (cI, 30, .inl (D 3))), (b0, .inl (cI, 31, .inl (D 4))), (b1, .inl (cI, 31, .inl (D 5))), (b2, .inl (cI, 31, .inl (D 6))), (b3, .inl (cI, 31, .inl (D 7))), (b4, .inl (cI, 31, .inl (D 8))), (b5, .inl (cI, 31, .inl (D 9))), (b6, .inl (cI, 31, .inl (D 10)))]) [0, 1, 2, 3, 4, 5, 6, 7, 8, 9, 10, 11, 12] rfl
      have hD9 := hD.sub (ws' := [(mo, .inr (3, [.int th, .ref rr, .ref si, .ref nb, .ref ak, .ref ha])), (rr, .inl (cR, 7, .inr (.inr (.inr (.inr (RW [b0, b1, b2, b3, b4, b5, b6])))))), (si, .inl (cI, 7, .inl (D 0))), (nb, .inl (cI, 6, .inl (D 1))), (ak, .inl (cI, 30, .inl (D 2))), (ha, .inl (cI, 30, .inl (D 3))), (b0, .inl (cI, 31, .inl (D 4))), (b1, .inl (cI, 31, .inl (D 5))), (b2, .inl (cI, 31, .inl (D 6))), (b3, .inl (cI, 31, .inl (D 7))), (b4, .inl (cI, 31, .inl (D 8))), (b5, .inl (cI, 31, .inl (D 9))), (b6, .inl (cI, 31, .inl (D 10)))]) [0, 1, 2, 3, 4, 5, 6, 7, 8, 9, 10, 11, 12] (by decide) rfl
      exact W.iret (v := (-1)) hx hb hr (fun t ht hW => ⟨⟨(-1), (), rfl, (pos_no (fun k hk9 => hk k (by omega))).symm, g_at hP9 hK hD9 ht hW⟩, hS.F ht⟩) hS.2.2 dX3_find_33
    · refine lv_aload_n hx hb dX3_find_12 rfl (lv_at hl 1 rfl) ?_
      refine va_get (D := G) (ci := 3) (v := .ref rr) (C := RX3) (T := TX3) (N := 6) hx hb hts iX3_find_X3 hown hK hP 0 rfl rfl 1 (by decide) (hts (.fieldLink RX3 11 "GhostPantryModel" "rows" "[[I") (by decide +kernel)) (fun _ h9 => h9) rfl dX3_find_13 ?_
      refine lv_iload_n hx hb dX3_find_16 rfl (lv_at hl 2 rfl) ?_
      refine g_aald hx hb hK hP 1 1 rfl rfl (i := 2) (by decide) (by decide) dX3_find_17 (b := b2) (rfl) ?_
      refine lv_iload_n hx hb dX3_find_18 rfl (lv_at hl 0 rfl) ?_
      refine g_iald hx hb hK hP 8 0 rfl rfl (i := i) (by omega) (by decide) dX3_find_19 (v := (L2.getD i 0)) ((show Rw _ L2 from hM.2.1) _ (by omega)) ?_
      refine lv_iload_n hx hb dX3_find_20 rfl (lv_at hl 3 rfl) ?_
      refine lv_icmp_ne (tgt := 26) hx hb dX3_find_21 (by decide) (fun c_2 => ?_) (fun c_2 => ?_)
      · refine lv_iinc (v := (nI (i + 1))) (lv' := [(3, .int (nI (i + 1))), (0, .ref mo), (1, .int (nI 2)), (2, .int jar)]) hx hb dX3_find_26 hl (k := 0) rfl (nI_1 _) (by decide) rfl (fun ls hl => ?_)
        refine lv_goto (tgt := 2) hx hb dX3_find_29 (by decide) ?_
        have hk2 : ∀ k, k < i + 1 → L2.getD k 0 ≠ jar := fun k hk9 => by
          rcases Nat.lt_or_ge k i with z | z
          · exact hk k z
          · have e : k = i := by omega
            rw [e]; assumption
        have hl9 := lv_sub (l' := [(3, .int (nI (i + 1))), (0, .ref mo), (1, .int (nI 2)), (2, .int jar)]) hl [0, 1, 2, 3] rfl
        first | exact ih ls (i + 1) hl9 (by omega) hk2 (by omega) | exact ih (i + 1) ls hl9 (by omega) hk2 (by omega)
      · refine lv_iload_n hx hb dX3_find_24 rfl (lv_at hl 0 rfl) ?_
        have hP9 := hP.sub (ws' := [(mo, .inr (3, [.int th, .ref rr, .ref si, .ref nb, .ref ak, .ref ha])), (rr, .inl (cR, 7, .inr (.inr (.inr (.inr (RW [b0, b1, b2, b3, b4, b5, b6])))))), (si, .inl (cI, 7, .inl (D 0))), (nb, .inl (cI, 6, .inl (D 1))), (ak, .inl (cI, 30, .inl (D 2))), (ha, .inl (cI, 30, .inl (D 3))), (b0, .inl (cI, 31, .inl (D 4))), (b1, .inl (cI, 31, .inl (D 5))), (b2, .inl (cI, 31, .inl (D 6))), (b3, .inl (cI, 31, .inl (D 7))), (b4, .inl (cI, 31, .inl (D 8))), (b5, .inl (cI, 31, .inl (D 9))), (b6, .inl (cI, 31, .inl (D 10)))]) [0, 1, 2, 3, 4, 5, 6, 7, 8, 9, 10, 11, 12] rfl
        have hD9 := hD.sub (ws' := [(mo, .inr (3, [.int th, .ref rr, .ref si, .ref nb, .ref ak, .ref ha])), (rr, .inl (cR, 7, .inr (.inr (.inr (.inr (RW [b0, b1, b2, b3, b4, b5, b6])))))), (si, .inl (cI, 7, .inl (D 0))), (nb, .inl (cI, 6, .inl (D 1))), (ak, .inl (cI, 30, .inl (D 2))), (ha, .inl (cI, 30, .inl (D 3))), (b0, .inl (cI, 31, .inl (D 4))), (b1, .inl (cI, 31, .inl (D 5))), (b2, .inl (cI, 31, .inl (D 6))), (b3, .inl (cI, 31, .inl (D 7))), (b4, .inl (cI, 31, .inl (D 8))), (b5, .inl (cI, 31, .inl (D 9))), (b6, .inl (cI, 31, .inl (D 10)))]) [0, 1, 2, 3, 4, 5, 6, 7, 8, 9, 10, 11, 12] (by decide) rfl
        exact W.iret (v := (nI i)) hx hb hr (fun t ht hW => ⟨⟨(nI i), (), rfl, (pos_at (by omega) hk (by assumption)).symm, g_at hP9 hK hD9 ht hW⟩, hS.F ht⟩) hS.2.2 dX3_find_25

set_option maxHeartbeats 4000000 in
set_option maxRecDepth 100000 in
theorem c_X3_find_3 (l : Launch) (G : va_G) (cI cR : ClassId) (mo rr si nb ak ha b0 b1 b2 b3 b4 b5 b6 : Nat) (th : Int32) (D : Nat → Nat → Int32) (L1 L2 L3 L4 P M : List Int32) (rc bo : Nat) (nA nH nP nM : Int32) (KA TA : Nat → Int32) (hM : MOK D rc M ((L1, L2, L3, L4), P, bo, nA, nH, nP, nM, KA, TA)) (jar : Int32) (hb3 : L3.length ≤ 30) (sz : Nat) : Met l yX3_find wsX3_find ({ frames := 0, cells := 0, slots := 0, locals := 0 }) (va_Pc [.ref mo, .int (nI 3), .int jar] (gpre G [(cI, .int), (cR, .array .int)] [(mo, .inr (3, [.int th, .ref rr, .ref si, .ref nb, .ref ak, .ref ha])), (rr, .inl (cR, 7, .inr (.inr (.inr (.inr (RW [b0, b1, b2, b3, b4, b5, b6])))))), (si, .inl (cI, 7, .inl (D 0))), (nb, .inl (cI, 6, .inl (D 1))), (ak, .inl (cI, 30, .inl (D 2))), (ha, .inl (cI, 30, .inl (D 3))), (b0, .inl (cI, 31, .inl (D 4))), (b1, .inl (cI, 31, .inl (D 5))), (b2, .inl (cI, 31, .inl (D 6))), (b3, .inl (cI, 31, .inl (D 7))), (b4, .inl (cI, 31, .inl (D 8))), (b5, .inl (cI, 31, .inl (D 9))), (b6, .inl (cI, 31, .inl (D 10)))] sz)) (va_Qi (fun (z : Int32) (_ : Unit) => z = pos L3 jar) (fun (_ : Unit) t => gat G [(cI, .int), (cR, .array .int)] (va_A [(mo, .inr (3, [.int th, .ref rr, .ref si, .ref nb, .ref ak, .ref ha])), (rr, .inl (cR, 7, .inr (.inr (.inr (.inr (RW [b0, b1, b2, b3, b4, b5, b6])))))), (si, .inl (cI, 7, .inl (D 0))), (nb, .inl (cI, 6, .inl (D 1))), (ak, .inl (cI, 30, .inl (D 2))), (ha, .inl (cI, 30, .inl (D 3))), (b0, .inl (cI, 31, .inl (D 4))), (b1, .inl (cI, 31, .inl (D 5))), (b2, .inl (cI, 31, .inl (D 6))), (b3, .inl (cI, 31, .inl (D 7))), (b4, .inl (cI, 31, .inl (D 8))), (b5, .inl (cI, 31, .inl (D 9))), (b6, .inl (cI, 31, .inl (D 10)))] sz) [(mo, .inr (3, [.int th, .ref rr, .ref si, .ref nb, .ref ak, .ref ha])), (rr, .inl (cR, 7, .inr (.inr (.inr (.inr (RW [b0, b1, b2, b3, b4, b5, b6])))))), (si, .inl (cI, 7, .inl (D 0))), (nb, .inl (cI, 6, .inl (D 1))), (ak, .inl (cI, 30, .inl (D 2))), (ha, .inl (cI, 30, .inl (D 3))), (b0, .inl (cI, 31, .inl (D 4))), (b1, .inl (cI, 31, .inl (D 5))), (b2, .inl (cI, 31, .inl (D 6))), (b3, .inl (cI, 31, .inl (D 7))), (b4, .inl (cI, 31, .inl (D 8))), (b5, .inl (cI, 31, .inl (D 9))), (b6, .inl (cI, 31, .inl (D 10)))] t) (va_A [(mo, .inr (3, [.int th, .ref rr, .ref si, .ref nb, .ref ak, .ref ha])), (rr, .inl (cR, 7, .inr (.inr (.inr (.inr (RW [b0, b1, b2, b3, b4, b5, b6])))))), (si, .inl (cI, 7, .inl (D 0))), (nb, .inl (cI, 6, .inl (D 1))), (ak, .inl (cI, 30, .inl (D 2))), (ha, .inl (cI, 30, .inl (D 3))), (b0, .inl (cI, 31, .inl (D 4))), (b1, .inl (cI, 31, .inl (D 5))), (b2, .inl (cI, 31, .inl (D 6))), (b3, .inl (cI, 31, .inl (D 7))), (b4, .inl (cI, 31, .inl (D 8))), (b5, .inl (cI, 31, .inl (D 9))), (b6, .inl (cI, 31, .inl (D 10)))] sz)) 0 0 (va_A [(mo, .inr (3, [.int th, .ref rr, .ref si, .ref nb, .ref ak, .ref ha])), (rr, .inl (cR, 7, .inr (.inr (.inr (.inr (RW [b0, b1, b2, b3, b4, b5, b6])))))), (si, .inl (cI, 7, .inl (D 0))), (nb, .inl (cI, 6, .inl (D 1))), (ak, .inl (cI, 30, .inl (D 2))), (ha, .inl (cI, 30, .inl (D 3))), (b0, .inl (cI, 31, .inl (D 4))), (b1, .inl (cI, 31, .inl (D 5))), (b2, .inl (cI, 31, .inl (D 6))), (b3, .inl (cI, 31, .inl (D 7))), (b4, .inl (cI, 31, .inl (D 8))), (b5, .inl (cI, 31, .inl (D 9))), (b6, .inl (cI, 31, .inl (D 10)))] sz) := by
  refine Met.ofW (cc := cX3_find) (maxL := 4) (ret := (some .int)) (by decide) rfl ?_
  intro p e s m args below meth c s₁ B hml hv
  obtain ⟨rfl, hsz, hP, hK, hD0⟩ := hv
  have hx := B.exec
  have hb := B.bytes
  have hr := B.returns
  have hts := atoms_spec (ws := wsX3_find) B.pre
  have hown : s.vm.findClass RX3 = some m.cls := findClass_of_methodNamed B.named
  have hlocks := B.notSynchronized
  subst hsz
  have hD := hD0.self (sz := s.heap.size)
  clear hD0
  generalize hAe : va_A [(mo, .inr (3, [.int th, .ref rr, .ref si, .ref nb, .ref ak, .ref ha])), (rr, .inl (cR, 7, .inr (.inr (.inr (.inr (RW [b0, b1, b2, b3, b4, b5, b6])))))), (si, .inl (cI, 7, .inl (D 0))), (nb, .inl (cI, 6, .inl (D 1))), (ak, .inl (cI, 30, .inl (D 2))), (ha, .inl (cI, 30, .inl (D 3))), (b0, .inl (cI, 31, .inl (D 4))), (b1, .inl (cI, 31, .inl (D 5))), (b2, .inl (cI, 31, .inl (D 6))), (b3, .inl (cI, 31, .inl (D 7))), (b4, .inl (cI, 31, .inl (D 8))), (b5, .inl (cI, 31, .inl (D 9))), (b6, .inl (cI, 31, .inl (D 10)))] s.heap.size = A at hD ⊢
  have hA : ∀ q : Nat, s.heap.size ≤ q → A q := fun q h => by rw [← hAe]; exact Or.inr h
  have hS : va_S A s.heap s.heap [] := va_S.rf
  have hP : va_P G vwCl [(mo, .inr (3, [.int th, .ref rr, .ref si, .ref nb, .ref ak, .ref ha])), (rr, .inl (cR, 7, .inr (.inr (.inr (.inr (RW [b0, b1, b2, b3, b4, b5, b6])))))), (si, .inl (cI, 7, .inl (D 0))), (nb, .inl (cI, 6, .inl (D 1))), (ak, .inl (cI, 30, .inl (D 2))), (ha, .inl (cI, 30, .inl (D 3))), (b0, .inl (cI, 31, .inl (D 4))), (b1, .inl (cI, 31, .inl (D 5))), (b2, .inl (cI, 31, .inl (D 6))), (b3, .inl (cI, 31, .inl (D 7))), (b4, .inl (cI, 31, .inl (D 8))), (b5, .inl (cI, 31, .inl (D 9))), (b6, .inl (cI, 31, .inl (D 10)))] s.heap := hP
  have hl := lv_entry ([.ref mo, .int (nI 3), .int jar]) (n := 4) (Nat.le_of_ble_eq_true rfl)
  rw [lg_entry_eq]
  generalize (lg_sl ([.ref mo, .int (nI 3), .int jar]) ++ List.replicate (4 - (lg_sl ([.ref mo, .int (nI 3), .int jar])).length) Slot.unset).toArray = ls at hl ⊢
  have hl : lv_has ls 4 [(0, .ref mo), (1, .int (nI 3)), (2, .int jar)] := hl
  refine lv_iconst (v := (nI 0)) hx hb dX3_find_0 (by decide +kernel) ?_
  refine lv_istore_n (lv' := [(3, .int (nI 0)), (0, .ref mo), (1, .int (nI 3)), (2, .int jar)]) hx hb dX3_find_1 rfl hl (by decide) rfl (fun ls hl => ?_)
  obtain ⟨i, ei⟩ : ∃ i : Nat, i = 0 := ⟨0, rfl⟩
  have hl2 : lv_has ls 4 [(3, .int (nI i)), (0, .ref mo), (1, .int (nI 3)), (2, .int jar)] := by rw [ei]; exact hl
  clear hl
  have hl := hl2
  clear hl2
  have hi : i ≤ L3.length := by omega
  have hk : ∀ k, k < i → L3.getD k 0 ≠ jar := fun k hk => absurd hk (by omega)
  clear ei
  obtain ⟨n, hn9⟩ : ∃ n : Nat, L3.length - i < n := ⟨_, Nat.lt_succ_self _⟩
  induction n generalizing i ls with
  | zero => exact absurd hn9 (Nat.not_lt_zero _)
  | succ n ih =>
    refine lv_iload_n hx hb dX3_find_2 rfl (lv_at hl 0 rfl) ?_
    refine lv_aload_n hx hb dX3_find_3 rfl (lv_at hl 1 rfl) ?_
    refine va_get (D := G) (ci := 3) (v := .ref si) (C := RX3) (T := TX3) (N := 6) hx hb hts iX3_find_X3 hown hK hP 0 rfl rfl 2 (by decide) (hts (.fieldLink RX3 14 "GhostPantryModel" "sizes" "[I") (by decide +kernel)) (fun _ h9 => h9) rfl dX3_find_4 ?_
    refine lv_iload_n hx hb dX3_find_7 rfl (lv_at hl 2 rfl) ?_
    refine g_iald hx hb hK hP 2 0 rfl rfl (i := 3) (by decide) (by decide) dX3_find_8 (v := (nI L3.length)) (hM.2.2.2.2.2.2.2.2.1) ?_
    refine g_icmp_ge (tgt := 32) hx hb dX3_find_9 (by decide) (by omega) (by omega) (fun c_1 => ?_) (fun c_1 => ?_)
    · refine lv_iconst (v := (-1)) hx hb dX3_find_32 (by decide +kernel) ?_
      have hP9 := hP.sub (ws' := [(mo, .inr (3, [.int th, .ref rr, .ref si, .ref nb, .ref ak, .ref ha])), (rr, .inl (cR, 7, .inr (.inr (.inr (.inr (RW [b0, b1, b2, b3, b4, b5, b6])))))), (si, .inl (cI, 7, .inl (D 0))), (nb, .inl (cI, 6, .inl (D 1))), (ak, .inl (cI, 30, .inl (D 2))), (ha, .inl (cI, 30, .inl (D 3))), (b0, .inl (cI, 31, .inl (D 4))), (b1, .inl (cI, 31, .inl (D 5))), (b2, .inl (cI, 31, .inl (D 6))), (b3, .inl (cI, 31, .inl (D 7))), (b4, .inl (cI, 31, .inl (D 8))), (b5, .inl (cI, 31, .inl (D 9))), (b6, .inl (cI, 31, .inl (D 10)))]) [0, 1, 2, 3, 4, 5, 6, 7, 8, 9, 10, 11, 12] rfl
      have hD9 := hD.sub (ws' := [(mo, .inr (3, [.int th, .ref rr, .ref si, .ref nb, .ref ak, .ref ha])), (rr, .inl (cR, 7, .inr (.inr (.inr (.inr (RW [b0, b1, b2, b3, b4, b5, b6])))))), (si, .inl (cI, 7, .inl (D 0))), (nb, .inl (cI, 6, .inl (D 1))), (ak, .inl (cI, 30, .inl (D 2))), (ha, .inl (cI, 30, .inl (D 3))), (b0, .inl (cI, 31, .inl (D 4))), (b1, .inl (cI, 31, .inl (D 5))), (b2, .inl (cI, 31, .inl (D 6))), (b3, .inl (cI, 31, .inl (D 7))), (b4, .inl (cI, 31, .inl (D 8))), (b5, .inl (cI, 31, .inl (D 9))), (b6, .inl (cI, 31, .inl (D 10)))]) [0, 1, 2, 3, 4, 5, 6, 7, 8, 9, 10, 11, 12] (by decide) rfl
      exact W.iret (v := (-1)) hx hb hr (fun t ht hW => ⟨⟨(-1), (), rfl, (pos_no (fun k hk9 => hk k (by omega))).symm, g_at hP9 hK hD9 ht hW⟩, hS.F ht⟩) hS.2.2 dX3_find_33
    · refine lv_aload_n hx hb dX3_find_12 rfl (lv_at hl 1 rfl) ?_
      refine va_get (D := G) (ci := 3) (v := .ref rr) (C := RX3) (T := TX3) (N := 6) hx hb hts iX3_find_X3 hown hK hP 0 rfl rfl 1 (by decide) (hts (.fieldLink RX3 11 "GhostPantryModel" "rows" "[[I") (by decide +kernel)) (fun _ h9 => h9) rfl dX3_find_13 ?_
      refine lv_iload_n hx hb dX3_find_16 rfl (lv_at hl 2 rfl) ?_
      refine g_aald hx hb hK hP 1 1 rfl rfl (i := 3) (by decide) (by decide) dX3_find_17 (b := b3) (rfl) ?_
      refine lv_iload_n hx hb dX3_find_18 rfl (lv_at hl 0 rfl) ?_
      refine g_iald hx hb hK hP 9 0 rfl rfl (i := i) (by omega) (by decide) dX3_find_19 (v := (L3.getD i 0)) ((show Rw _ L3 from hM.2.2.1) _ (by omega)) ?_
      refine lv_iload_n hx hb dX3_find_20 rfl (lv_at hl 3 rfl) ?_
      refine lv_icmp_ne (tgt := 26) hx hb dX3_find_21 (by decide) (fun c_2 => ?_) (fun c_2 => ?_)
      · refine lv_iinc (v := (nI (i + 1))) (lv' := [(3, .int (nI (i + 1))), (0, .ref mo), (1, .int (nI 3)), (2, .int jar)]) hx hb dX3_find_26 hl (k := 0) rfl (nI_1 _) (by decide) rfl (fun ls hl => ?_)
        refine lv_goto (tgt := 2) hx hb dX3_find_29 (by decide) ?_
        have hk2 : ∀ k, k < i + 1 → L3.getD k 0 ≠ jar := fun k hk9 => by
          rcases Nat.lt_or_ge k i with z | z
          · exact hk k z
          · have e : k = i := by omega
            rw [e]; assumption
        have hl9 := lv_sub (l' := [(3, .int (nI (i + 1))), (0, .ref mo), (1, .int (nI 3)), (2, .int jar)]) hl [0, 1, 2, 3] rfl
        first | exact ih ls (i + 1) hl9 (by omega) hk2 (by omega) | exact ih (i + 1) ls hl9 (by omega) hk2 (by omega)
      · refine lv_iload_n hx hb dX3_find_24 rfl (lv_at hl 0 rfl) ?_
        have hP9 := hP.sub (ws' := [(mo, .inr (3, [.int th, .ref rr, .ref si, .ref nb, .ref ak, .ref ha])), (rr, .inl (cR, 7, .inr (.inr (.inr (.inr (RW [b0, b1, b2, b3, b4, b5, b6])))))), (si, .inl (cI, 7, .inl (D 0))), (nb, .inl (cI, 6, .inl (D 1))), (ak, .inl (cI, 30, .inl (D 2))), (ha, .inl (cI, 30, .inl (D 3))), (b0, .inl (cI, 31, .inl (D 4))), (b1, .inl (cI, 31, .inl (D 5))), (b2, .inl (cI, 31, .inl (D 6))), (b3, .inl (cI, 31, .inl (D 7))), (b4, .inl (cI, 31, .inl (D 8))), (b5, .inl (cI, 31, .inl (D 9))), (b6, .inl (cI, 31, .inl (D 10)))]) [0, 1, 2, 3, 4, 5, 6, 7, 8, 9, 10, 11, 12] rfl
        have hD9 := hD.sub (ws' := [(mo, .inr (3, [.int th, .ref rr, .ref si, .ref nb, .ref ak, .ref ha])), (rr, .inl (cR, 7, .inr (.inr (.inr (.inr (RW [b0, b1, b2, b3, b4, b5, b6])))))), (si, .inl (cI, 7, .inl (D 0))), (nb, .inl (cI, 6, .inl (D 1))), (ak, .inl (cI, 30, .inl (D 2))), (ha, .inl (cI, 30, .inl (D 3))), (b0, .inl (cI, 31, .inl (D 4))), (b1, .inl (cI, 31, .inl (D 5))), (b2, .inl (cI, 31, .inl (D 6))), (b3, .inl (cI, 31, .inl (D 7))), (b4, .inl (cI, 31, .inl (D 8))), (b5, .inl (cI, 31, .inl (D 9))), (b6, .inl (cI, 31, .inl (D 10)))]) [0, 1, 2, 3, 4, 5, 6, 7, 8, 9, 10, 11, 12] (by decide) rfl
        exact W.iret (v := (nI i)) hx hb hr (fun t ht hW => ⟨⟨(nI i), (), rfl, (pos_at (by omega) hk (by assumption)).symm, g_at hP9 hK hD9 ht hW⟩, hS.F ht⟩) hS.2.2 dX3_find_25

set_option maxHeartbeats 4000000 in
set_option maxRecDepth 100000 in
theorem c_X3_find_4 (l : Launch) (G : va_G) (cI cR : ClassId) (mo rr si nb ak ha b0 b1 b2 b3 b4 b5 b6 : Nat) (th : Int32) (D : Nat → Nat → Int32) (L1 L2 L3 L4 P M : List Int32) (rc bo : Nat) (nA nH nP nM : Int32) (KA TA : Nat → Int32) (hM : MOK D rc M ((L1, L2, L3, L4), P, bo, nA, nH, nP, nM, KA, TA)) (jar : Int32) (hb4 : L4.length ≤ 30) (sz : Nat) : Met l yX3_find wsX3_find ({ frames := 0, cells := 0, slots := 0, locals := 0 }) (va_Pc [.ref mo, .int (nI 4), .int jar] (gpre G [(cI, .int), (cR, .array .int)] [(mo, .inr (3, [.int th, .ref rr, .ref si, .ref nb, .ref ak, .ref ha])), (rr, .inl (cR, 7, .inr (.inr (.inr (.inr (RW [b0, b1, b2, b3, b4, b5, b6])))))), (si, .inl (cI, 7, .inl (D 0))), (nb, .inl (cI, 6, .inl (D 1))), (ak, .inl (cI, 30, .inl (D 2))), (ha, .inl (cI, 30, .inl (D 3))), (b0, .inl (cI, 31, .inl (D 4))), (b1, .inl (cI, 31, .inl (D 5))), (b2, .inl (cI, 31, .inl (D 6))), (b3, .inl (cI, 31, .inl (D 7))), (b4, .inl (cI, 31, .inl (D 8))), (b5, .inl (cI, 31, .inl (D 9))), (b6, .inl (cI, 31, .inl (D 10)))] sz)) (va_Qi (fun (z : Int32) (_ : Unit) => z = pos L4 jar) (fun (_ : Unit) t => gat G [(cI, .int), (cR, .array .int)] (va_A [(mo, .inr (3, [.int th, .ref rr, .ref si, .ref nb, .ref ak, .ref ha])), (rr, .inl (cR, 7, .inr (.inr (.inr (.inr (RW [b0, b1, b2, b3, b4, b5, b6])))))), (si, .inl (cI, 7, .inl (D 0))), (nb, .inl (cI, 6, .inl (D 1))), (ak, .inl (cI, 30, .inl (D 2))), (ha, .inl (cI, 30, .inl (D 3))), (b0, .inl (cI, 31, .inl (D 4))), (b1, .inl (cI, 31, .inl (D 5))), (b2, .inl (cI, 31, .inl (D 6))), (b3, .inl (cI, 31, .inl (D 7))), (b4, .inl (cI, 31, .inl (D 8))), (b5, .inl (cI, 31, .inl (D 9))), (b6, .inl (cI, 31, .inl (D 10)))] sz) [(mo, .inr (3, [.int th, .ref rr, .ref si, .ref nb, .ref ak, .ref ha])), (rr, .inl (cR, 7, .inr (.inr (.inr (.inr (RW [b0, b1, b2, b3, b4, b5, b6])))))), (si, .inl (cI, 7, .inl (D 0))), (nb, .inl (cI, 6, .inl (D 1))), (ak, .inl (cI, 30, .inl (D 2))), (ha, .inl (cI, 30, .inl (D 3))), (b0, .inl (cI, 31, .inl (D 4))), (b1, .inl (cI, 31, .inl (D 5))), (b2, .inl (cI, 31, .inl (D 6))), (b3, .inl (cI, 31, .inl (D 7))), (b4, .inl (cI, 31, .inl (D 8))), (b5, .inl (cI, 31, .inl (D 9))), (b6, .inl (cI, 31, .inl (D 10)))] t) (va_A [(mo, .inr (3, [.int th, .ref rr, .ref si, .ref nb, .ref ak, .ref ha])), (rr, .inl (cR, 7, .inr (.inr (.inr (.inr (RW [b0, b1, b2, b3, b4, b5, b6])))))), (si, .inl (cI, 7, .inl (D 0))), (nb, .inl (cI, 6, .inl (D 1))), (ak, .inl (cI, 30, .inl (D 2))), (ha, .inl (cI, 30, .inl (D 3))), (b0, .inl (cI, 31, .inl (D 4))), (b1, .inl (cI, 31, .inl (D 5))), (b2, .inl (cI, 31, .inl (D 6))), (b3, .inl (cI, 31, .inl (D 7))), (b4, .inl (cI, 31, .inl (D 8))), (b5, .inl (cI, 31, .inl (D 9))), (b6, .inl (cI, 31, .inl (D 10)))] sz)) 0 0 (va_A [(mo, .inr (3, [.int th, .ref rr, .ref si, .ref nb, .ref ak, .ref ha])), (rr, .inl (cR, 7, .inr (.inr (.inr (.inr (RW [b0, b1, b2, b3, b4, b5, b6])))))), (si, .inl (cI, 7, .inl (D 0))), (nb, .inl (cI, 6, .inl (D 1))), (ak, .inl (cI, 30, .inl (D 2))), (ha, .inl (cI, 30, .inl (D 3))), (b0, .inl (cI, 31, .inl (D 4))), (b1, .inl (cI, 31, .inl (D 5))), (b2, .inl (cI, 31, .inl (D 6))), (b3, .inl (cI, 31, .inl (D 7))), (b4, .inl (cI, 31, .inl (D 8))), (b5, .inl (cI, 31, .inl (D 9))), (b6, .inl (cI, 31, .inl (D 10)))] sz) := by
  refine Met.ofW (cc := cX3_find) (maxL := 4) (ret := (some .int)) (by decide) rfl ?_
  intro p e s m args below meth c s₁ B hml hv
  obtain ⟨rfl, hsz, hP, hK, hD0⟩ := hv
  have hx := B.exec
  have hb := B.bytes
  have hr := B.returns
  have hts := atoms_spec (ws := wsX3_find) B.pre
  have hown : s.vm.findClass RX3 = some m.cls := findClass_of_methodNamed B.named
  have hlocks := B.notSynchronized
  subst hsz
  have hD := hD0.self (sz := s.heap.size)
  clear hD0
  generalize hAe : va_A [(mo, .inr (3, [.int th, .ref rr, .ref si, .ref nb, .ref ak, .ref ha])), (rr, .inl (cR, 7, .inr (.inr (.inr (.inr (RW [b0, b1, b2, b3, b4, b5, b6])))))), (si, .inl (cI, 7, .inl (D 0))), (nb, .inl (cI, 6, .inl (D 1))), (ak, .inl (cI, 30, .inl (D 2))), (ha, .inl (cI, 30, .inl (D 3))), (b0, .inl (cI, 31, .inl (D 4))), (b1, .inl (cI, 31, .inl (D 5))), (b2, .inl (cI, 31, .inl (D 6))), (b3, .inl (cI, 31, .inl (D 7))), (b4, .inl (cI, 31, .inl (D 8))), (b5, .inl (cI, 31, .inl (D 9))), (b6, .inl (cI, 31, .inl (D 10)))] s.heap.size = A at hD ⊢
  have hA : ∀ q : Nat, s.heap.size ≤ q → A q := fun q h => by rw [← hAe]; exact Or.inr h
  have hS : va_S A s.heap s.heap [] := va_S.rf
  have hP : va_P G vwCl [(mo, .inr (3, [.int th, .ref rr, .ref si, .ref nb, .ref ak, .ref ha])), (rr, .inl (cR, 7, .inr (.inr (.inr (.inr (RW [b0, b1, b2, b3, b4, b5, b6])))))), (si, .inl (cI, 7, .inl (D 0))), (nb, .inl (cI, 6, .inl (D 1))), (ak, .inl (cI, 30, .inl (D 2))), (ha, .inl (cI, 30, .inl (D 3))), (b0, .inl (cI, 31, .inl (D 4))), (b1, .inl (cI, 31, .inl (D 5))), (b2, .inl (cI, 31, .inl (D 6))), (b3, .inl (cI, 31, .inl (D 7))), (b4, .inl (cI, 31, .inl (D 8))), (b5, .inl (cI, 31, .inl (D 9))), (b6, .inl (cI, 31, .inl (D 10)))] s.heap := hP
  have hl := lv_entry ([.ref mo, .int (nI 4), .int jar]) (n := 4) (Nat.le_of_ble_eq_true rfl)
  rw [lg_entry_eq]
  generalize (lg_sl ([.ref mo, .int (nI 4), .int jar]) ++ List.replicate (4 - (lg_sl ([.ref mo, .int (nI 4), .int jar])).length) Slot.unset).toArray = ls at hl ⊢
  have hl : lv_has ls 4 [(0, .ref mo), (1, .int (nI 4)), (2, .int jar)] := hl
  refine lv_iconst (v := (nI 0)) hx hb dX3_find_0 (by decide +kernel) ?_
  refine lv_istore_n (lv' := [(3, .int (nI 0)), (0, .ref mo), (1, .int (nI 4)), (2, .int jar)]) hx hb dX3_find_1 rfl hl (by decide) rfl (fun ls hl => ?_)
  obtain ⟨i, ei⟩ : ∃ i : Nat, i = 0 := ⟨0, rfl⟩
  have hl2 : lv_has ls 4 [(3, .int (nI i)), (0, .ref mo), (1, .int (nI 4)), (2, .int jar)] := by rw [ei]; exact hl
  clear hl
  have hl := hl2
  clear hl2
  have hi : i ≤ L4.length := by omega
  have hk : ∀ k, k < i → L4.getD k 0 ≠ jar := fun k hk => absurd hk (by omega)
  clear ei
  obtain ⟨n, hn9⟩ : ∃ n : Nat, L4.length - i < n := ⟨_, Nat.lt_succ_self _⟩
  induction n generalizing i ls with
  | zero => exact absurd hn9 (Nat.not_lt_zero _)
  | succ n ih =>
    refine lv_iload_n hx hb dX3_find_2 rfl (lv_at hl 0 rfl) ?_
    refine lv_aload_n hx hb dX3_find_3 rfl (lv_at hl 1 rfl) ?_
    refine va_get (D := G) (ci := 3) (v := .ref si) (C := RX3) (T := TX3) (N := 6) hx hb hts iX3_find_X3 hown hK hP 0 rfl rfl 2 (by decide) (hts (.fieldLink RX3 14 "GhostPantryModel" "sizes" "[I") (by decide +kernel)) (fun _ h9 => h9) rfl dX3_find_4 ?_
    refine lv_iload_n hx hb dX3_find_7 rfl (lv_at hl 2 rfl) ?_
    refine g_iald hx hb hK hP 2 0 rfl rfl (i := 4) (by decide) (by decide) dX3_find_8 (v := (nI L4.length)) (hM.2.2.2.2.2.2.2.2.2.1) ?_
    refine g_icmp_ge (tgt := 32) hx hb dX3_find_9 (by decide) (by omega) (by omega) (fun c_1 => ?_) (fun c_1 => ?_)
    · refine lv_iconst (v := (-1)) hx hb dX3_find_32 (by decide +kernel) ?_
      have hP9 := hP.sub (ws' := [(mo, .inr (3, [.int th, .ref rr, .ref si, .ref nb, .ref ak, .ref ha])), (rr, .inl (cR, 7, .inr (.inr (.inr (.inr (RW [b0, b1, b2, b3, b4, b5, b6])))))), (si, .inl (cI, 7, .inl (D 0))), (nb, .inl (cI, 6, .inl (D 1))), (ak, .inl (cI, 30, .inl (D 2))), (ha, .inl (cI, 30, .inl (D 3))), (b0, .inl (cI, 31, .inl (D 4))), (b1, .inl (cI, 31, .inl (D 5))), (b2, .inl (cI, 31, .inl (D 6))), (b3, .inl (cI, 31, .inl (D 7))), (b4, .inl (cI, 31, .inl (D 8))), (b5, .inl (cI, 31, .inl (D 9))), (b6, .inl (cI, 31, .inl (D 10)))]) [0, 1, 2, 3, 4, 5, 6, 7, 8, 9, 10, 11, 12] rfl
      have hD9 := hD.sub (ws' := [(mo, .inr (3, [.int th, .ref rr, .ref si, .ref nb, .ref ak, .ref ha])), (rr, .inl (cR, 7, .inr (.inr (.inr (.inr (RW [b0, b1, b2, b3, b4, b5, b6])))))), (si, .inl (cI, 7, .inl (D 0))), (nb, .inl (cI, 6, .inl (D 1))), (ak, .inl (cI, 30, .inl (D 2))), (ha, .inl (cI, 30, .inl (D 3))), (b0, .inl (cI, 31, .inl (D 4))), (b1, .inl (cI, 31, .inl (D 5))), (b2, .inl (cI, 31, .inl (D 6))), (b3, .inl (cI, 31, .inl (D 7))), (b4, .inl (cI, 31, .inl (D 8))), (b5, .inl (cI, 31, .inl (D 9))), (b6, .inl (cI, 31, .inl (D 10)))]) [0, 1, 2, 3, 4, 5, 6, 7, 8, 9, 10, 11, 12] (by decide) rfl
      exact W.iret (v := (-1)) hx hb hr (fun t ht hW => ⟨⟨(-1), (), rfl, (pos_no (fun k hk9 => hk k (by omega))).symm, g_at hP9 hK hD9 ht hW⟩, hS.F ht⟩) hS.2.2 dX3_find_33
    · refine lv_aload_n hx hb dX3_find_12 rfl (lv_at hl 1 rfl) ?_
      refine va_get (D := G) (ci := 3) (v := .ref rr) (C := RX3) (T := TX3) (N := 6) hx hb hts iX3_find_X3 hown hK hP 0 rfl rfl 1 (by decide) (hts (.fieldLink RX3 11 "GhostPantryModel" "rows" "[[I") (by decide +kernel)) (fun _ h9 => h9) rfl dX3_find_13 ?_
      refine lv_iload_n hx hb dX3_find_16 rfl (lv_at hl 2 rfl) ?_
      refine g_aald hx hb hK hP 1 1 rfl rfl (i := 4) (by decide) (by decide) dX3_find_17 (b := b4) (rfl) ?_
      refine lv_iload_n hx hb dX3_find_18 rfl (lv_at hl 0 rfl) ?_
      refine g_iald hx hb hK hP 10 0 rfl rfl (i := i) (by omega) (by decide) dX3_find_19 (v := (L4.getD i 0)) ((show Rw _ L4 from hM.2.2.2.1) _ (by omega)) ?_
      refine lv_iload_n hx hb dX3_find_20 rfl (lv_at hl 3 rfl) ?_
      refine lv_icmp_ne (tgt := 26) hx hb dX3_find_21 (by decide) (fun c_2 => ?_) (fun c_2 => ?_)
      · refine lv_iinc (v := (nI (i + 1))) (lv' := [(3, .int (nI (i + 1))), (0, .ref mo), (1, .int (nI 4)), (2, .int jar)]) hx hb dX3_find_26 hl (k := 0) rfl (nI_1 _) (by decide) rfl (fun ls hl => ?_)
        refine lv_goto (tgt := 2) hx hb dX3_find_29 (by decide) ?_
        have hk2 : ∀ k, k < i + 1 → L4.getD k 0 ≠ jar := fun k hk9 => by
          rcases Nat.lt_or_ge k i with z | z
          · exact hk k z
          · have e : k = i := by omega
            rw [e]; assumption
        have hl9 := lv_sub (l' := [(3, .int (nI (i + 1))), (0, .ref mo), (1, .int (nI 4)), (2, .int jar)]) hl [0, 1, 2, 3] rfl
        first | exact ih ls (i + 1) hl9 (by omega) hk2 (by omega) | exact ih (i + 1) ls hl9 (by omega) hk2 (by omega)
      · refine lv_iload_n hx hb dX3_find_24 rfl (lv_at hl 0 rfl) ?_
        have hP9 := hP.sub (ws' := [(mo, .inr (3, [.int th, .ref rr, .ref si, .ref nb, .ref ak, .ref ha])), (rr, .inl (cR, 7, .inr (.inr (.inr (.inr (RW [b0, b1, b2, b3, b4, b5, b6])))))), (si, .inl (cI, 7, .inl (D 0))), (nb, .inl (cI, 6, .inl (D 1))), (ak, .inl (cI, 30, .inl (D 2))), (ha, .inl (cI, 30, .inl (D 3))), (b0, .inl (cI, 31, .inl (D 4))), (b1, .inl (cI, 31, .inl (D 5))), (b2, .inl (cI, 31, .inl (D 6))), (b3, .inl (cI, 31, .inl (D 7))), (b4, .inl (cI, 31, .inl (D 8))), (b5, .inl (cI, 31, .inl (D 9))), (b6, .inl (cI, 31, .inl (D 10)))]) [0, 1, 2, 3, 4, 5, 6, 7, 8, 9, 10, 11, 12] rfl
        have hD9 := hD.sub (ws' := [(mo, .inr (3, [.int th, .ref rr, .ref si, .ref nb, .ref ak, .ref ha])), (rr, .inl (cR, 7, .inr (.inr (.inr (.inr (RW [b0, b1, b2, b3, b4, b5, b6])))))), (si, .inl (cI, 7, .inl (D 0))), (nb, .inl (cI, 6, .inl (D 1))), (ak, .inl (cI, 30, .inl (D 2))), (ha, .inl (cI, 30, .inl (D 3))), (b0, .inl (cI, 31, .inl (D 4))), (b1, .inl (cI, 31, .inl (D 5))), (b2, .inl (cI, 31, .inl (D 6))), (b3, .inl (cI, 31, .inl (D 7))), (b4, .inl (cI, 31, .inl (D 8))), (b5, .inl (cI, 31, .inl (D 9))), (b6, .inl (cI, 31, .inl (D 10)))]) [0, 1, 2, 3, 4, 5, 6, 7, 8, 9, 10, 11, 12] (by decide) rfl
        exact W.iret (v := (nI i)) hx hb hr (fun t ht hW => ⟨⟨(nI i), (), rfl, (pos_at (by omega) hk (by assumption)).symm, g_at hP9 hK hD9 ht hW⟩, hS.F ht⟩) hS.2.2 dX3_find_25

set_option maxHeartbeats 4000000 in
set_option maxRecDepth 100000 in
theorem c_X3_find_5 (l : Launch) (G : va_G) (cI cR : ClassId) (mo rr si nb ak ha b0 b1 b2 b3 b4 b5 b6 : Nat) (th : Int32) (D : Nat → Nat → Int32) (L1 L2 L3 L4 P M : List Int32) (rc bo : Nat) (nA nH nP nM : Int32) (KA TA : Nat → Int32) (hM : MOK D rc M ((L1, L2, L3, L4), P, bo, nA, nH, nP, nM, KA, TA)) (jar : Int32) (hb5 : P.length ≤ 30) (sz : Nat) : Met l yX3_find wsX3_find ({ frames := 0, cells := 0, slots := 0, locals := 0 }) (va_Pc [.ref mo, .int (nI 5), .int jar] (gpre G [(cI, .int), (cR, .array .int)] [(mo, .inr (3, [.int th, .ref rr, .ref si, .ref nb, .ref ak, .ref ha])), (rr, .inl (cR, 7, .inr (.inr (.inr (.inr (RW [b0, b1, b2, b3, b4, b5, b6])))))), (si, .inl (cI, 7, .inl (D 0))), (nb, .inl (cI, 6, .inl (D 1))), (ak, .inl (cI, 30, .inl (D 2))), (ha, .inl (cI, 30, .inl (D 3))), (b0, .inl (cI, 31, .inl (D 4))), (b1, .inl (cI, 31, .inl (D 5))), (b2, .inl (cI, 31, .inl (D 6))), (b3, .inl (cI, 31, .inl (D 7))), (b4, .inl (cI, 31, .inl (D 8))), (b5, .inl (cI, 31, .inl (D 9))), (b6, .inl (cI, 31, .inl (D 10)))] sz)) (va_Qi (fun (z : Int32) (_ : Unit) => z = pos P jar) (fun (_ : Unit) t => gat G [(cI, .int), (cR, .array .int)] (va_A [(mo, .inr (3, [.int th, .ref rr, .ref si, .ref nb, .ref ak, .ref ha])), (rr, .inl (cR, 7, .inr (.inr (.inr (.inr (RW [b0, b1, b2, b3, b4, b5, b6])))))), (si, .inl (cI, 7, .inl (D 0))), (nb, .inl (cI, 6, .inl (D 1))), (ak, .inl (cI, 30, .inl (D 2))), (ha, .inl (cI, 30, .inl (D 3))), (b0, .inl (cI, 31, .inl (D 4))), (b1, .inl (cI, 31, .inl (D 5))), (b2, .inl (cI, 31, .inl (D 6))), (b3, .inl (cI, 31, .inl (D 7))), (b4, .inl (cI, 31, .inl (D 8))), (b5, .inl (cI, 31, .inl (D 9))), (b6, .inl (cI, 31, .inl (D 10)))] sz) [(mo, .inr (3, [.int th, .ref rr, .ref si, .ref nb, .ref ak, .ref ha])), (rr, .inl (cR, 7, .inr (.inr (.inr (.inr (RW [b0, b1, b2, b3, b4, b5, b6])))))), (si, .inl (cI, 7, .inl (D 0))), (nb, .inl (cI, 6, .inl (D 1))), (ak, .inl (cI, 30, .inl (D 2))), (ha, .inl (cI, 30, .inl (D 3))), (b0, .inl (cI, 31, .inl (D 4))), (b1, .inl (cI, 31, .inl (D 5))), (b2, .inl (cI, 31, .inl (D 6))), (b3, .inl (cI, 31, .inl (D 7))), (b4, .inl (cI, 31, .inl (D 8))), (b5, .inl (cI, 31, .inl (D 9))), (b6, .inl (cI, 31, .inl (D 10)))] t) (va_A [(mo, .inr (3, [.int th, .ref rr, .ref si, .ref nb, .ref ak, .ref ha])), (rr, .inl (cR, 7, .inr (.inr (.inr (.inr (RW [b0, b1, b2, b3, b4, b5, b6])))))), (si, .inl (cI, 7, .inl (D 0))), (nb, .inl (cI, 6, .inl (D 1))), (ak, .inl (cI, 30, .inl (D 2))), (ha, .inl (cI, 30, .inl (D 3))), (b0, .inl (cI, 31, .inl (D 4))), (b1, .inl (cI, 31, .inl (D 5))), (b2, .inl (cI, 31, .inl (D 6))), (b3, .inl (cI, 31, .inl (D 7))), (b4, .inl (cI, 31, .inl (D 8))), (b5, .inl (cI, 31, .inl (D 9))), (b6, .inl (cI, 31, .inl (D 10)))] sz)) 0 0 (va_A [(mo, .inr (3, [.int th, .ref rr, .ref si, .ref nb, .ref ak, .ref ha])), (rr, .inl (cR, 7, .inr (.inr (.inr (.inr (RW [b0, b1, b2, b3, b4, b5, b6])))))), (si, .inl (cI, 7, .inl (D 0))), (nb, .inl (cI, 6, .inl (D 1))), (ak, .inl (cI, 30, .inl (D 2))), (ha, .inl (cI, 30, .inl (D 3))), (b0, .inl (cI, 31, .inl (D 4))), (b1, .inl (cI, 31, .inl (D 5))), (b2, .inl (cI, 31, .inl (D 6))), (b3, .inl (cI, 31, .inl (D 7))), (b4, .inl (cI, 31, .inl (D 8))), (b5, .inl (cI, 31, .inl (D 9))), (b6, .inl (cI, 31, .inl (D 10)))] sz) := by
  refine Met.ofW (cc := cX3_find) (maxL := 4) (ret := (some .int)) (by decide) rfl ?_
  intro p e s m args below meth c s₁ B hml hv
  obtain ⟨rfl, hsz, hP, hK, hD0⟩ := hv
  have hx := B.exec
  have hb := B.bytes
  have hr := B.returns
  have hts := atoms_spec (ws := wsX3_find) B.pre
  have hown : s.vm.findClass RX3 = some m.cls := findClass_of_methodNamed B.named
  have hlocks := B.notSynchronized
  subst hsz
  have hD := hD0.self (sz := s.heap.size)
  clear hD0
  generalize hAe : va_A [(mo, .inr (3, [.int th, .ref rr, .ref si, .ref nb, .ref ak, .ref ha])), (rr, .inl (cR, 7, .inr (.inr (.inr (.inr (RW [b0, b1, b2, b3, b4, b5, b6])))))), (si, .inl (cI, 7, .inl (D 0))), (nb, .inl (cI, 6, .inl (D 1))), (ak, .inl (cI, 30, .inl (D 2))), (ha, .inl (cI, 30, .inl (D 3))), (b0, .inl (cI, 31, .inl (D 4))), (b1, .inl (cI, 31, .inl (D 5))), (b2, .inl (cI, 31, .inl (D 6))), (b3, .inl (cI, 31, .inl (D 7))), (b4, .inl (cI, 31, .inl (D 8))), (b5, .inl (cI, 31, .inl (D 9))), (b6, .inl (cI, 31, .inl (D 10)))] s.heap.size = A at hD ⊢
  have hA : ∀ q : Nat, s.heap.size ≤ q → A q := fun q h => by rw [← hAe]; exact Or.inr h
  have hS : va_S A s.heap s.heap [] := va_S.rf
  have hP : va_P G vwCl [(mo, .inr (3, [.int th, .ref rr, .ref si, .ref nb, .ref ak, .ref ha])), (rr, .inl (cR, 7, .inr (.inr (.inr (.inr (RW [b0, b1, b2, b3, b4, b5, b6])))))), (si, .inl (cI, 7, .inl (D 0))), (nb, .inl (cI, 6, .inl (D 1))), (ak, .inl (cI, 30, .inl (D 2))), (ha, .inl (cI, 30, .inl (D 3))), (b0, .inl (cI, 31, .inl (D 4))), (b1, .inl (cI, 31, .inl (D 5))), (b2, .inl (cI, 31, .inl (D 6))), (b3, .inl (cI, 31, .inl (D 7))), (b4, .inl (cI, 31, .inl (D 8))), (b5, .inl (cI, 31, .inl (D 9))), (b6, .inl (cI, 31, .inl (D 10)))] s.heap := hP
  have hl := lv_entry ([.ref mo, .int (nI 5), .int jar]) (n := 4) (Nat.le_of_ble_eq_true rfl)
  rw [lg_entry_eq]
  generalize (lg_sl ([.ref mo, .int (nI 5), .int jar]) ++ List.replicate (4 - (lg_sl ([.ref mo, .int (nI 5), .int jar])).length) Slot.unset).toArray = ls at hl ⊢
  have hl : lv_has ls 4 [(0, .ref mo), (1, .int (nI 5)), (2, .int jar)] := hl
  refine lv_iconst (v := (nI 0)) hx hb dX3_find_0 (by decide +kernel) ?_
  refine lv_istore_n (lv' := [(3, .int (nI 0)), (0, .ref mo), (1, .int (nI 5)), (2, .int jar)]) hx hb dX3_find_1 rfl hl (by decide) rfl (fun ls hl => ?_)
  obtain ⟨i, ei⟩ : ∃ i : Nat, i = 0 := ⟨0, rfl⟩
  have hl2 : lv_has ls 4 [(3, .int (nI i)), (0, .ref mo), (1, .int (nI 5)), (2, .int jar)] := by rw [ei]; exact hl
  clear hl
  have hl := hl2
  clear hl2
  have hi : i ≤ P.length := by omega
  have hk : ∀ k, k < i → P.getD k 0 ≠ jar := fun k hk => absurd hk (by omega)
  clear ei
  obtain ⟨n, hn9⟩ : ∃ n : Nat, P.length - i < n := ⟨_, Nat.lt_succ_self _⟩
  induction n generalizing i ls with
  | zero => exact absurd hn9 (Nat.not_lt_zero _)
  | succ n ih =>
    refine lv_iload_n hx hb dX3_find_2 rfl (lv_at hl 0 rfl) ?_
    refine lv_aload_n hx hb dX3_find_3 rfl (lv_at hl 1 rfl) ?_
    refine va_get (D := G) (ci := 3) (v := .ref si) (C := RX3) (T := TX3) (N := 6) hx hb hts iX3_find_X3 hown hK hP 0 rfl rfl 2 (by decide) (hts (.fieldLink RX3 14 "GhostPantryModel" "sizes" "[I") (by decide +kernel)) (fun _ h9 => h9) rfl dX3_find_4 ?_
    refine lv_iload_n hx hb dX3_find_7 rfl (lv_at hl 2 rfl) ?_
    refine g_iald hx hb hK hP 2 0 rfl rfl (i := 5) (by decide) (by decide) dX3_find_8 (v := (nI P.length)) (hM.2.2.2.2.2.2.2.2.2.2.1) ?_
    refine g_icmp_ge (tgt := 32) hx hb dX3_find_9 (by decide) (by omega) (by omega) (fun c_1 => ?_) (fun c_1 => ?_)
    · refine lv_iconst (v := (-1)) hx hb dX3_find_32 (by decide +kernel) ?_
      have hP9 := hP.sub (ws' := [(mo, .inr (3, [.int th, .ref rr, .ref si, .ref nb, .ref ak, .ref ha])), (rr, .inl (cR, 7, .inr (.inr (.inr (.inr (RW [b0, b1, b2, b3, b4, b5, b6])))))), (si, .inl (cI, 7, .inl (D 0))), (nb, .inl (cI, 6, .inl (D 1))), (ak, .inl (cI, 30, .inl (D 2))), (ha, .inl (cI, 30, .inl (D 3))), (b0, .inl (cI, 31, .inl (D 4))), (b1, .inl (cI, 31, .inl (D 5))), (b2, .inl (cI, 31, .inl (D 6))), (b3, .inl (cI, 31, .inl (D 7))), (b4, .inl (cI, 31, .inl (D 8))), (b5, .inl (cI, 31, .inl (D 9))), (b6, .inl (cI, 31, .inl (D 10)))]) [0, 1, 2, 3, 4, 5, 6, 7, 8, 9, 10, 11, 12] rfl
      have hD9 := hD.sub (ws' := [(mo, .inr (3, [.int th, .ref rr, .ref si, .ref nb, .ref ak, .ref ha])), (rr, .inl (cR, 7, .inr (.inr (.inr (.inr (RW [b0, b1, b2, b3, b4, b5, b6])))))), (si, .inl (cI, 7, .inl (D 0))), (nb, .inl (cI, 6, .inl (D 1))), (ak, .inl (cI, 30, .inl (D 2))), (ha, .inl (cI, 30, .inl (D 3))), (b0, .inl (cI, 31, .inl (D 4))), (b1, .inl (cI, 31, .inl (D 5))), (b2, .inl (cI, 31, .inl (D 6))), (b3, .inl (cI, 31, .inl (D 7))), (b4, .inl (cI, 31, .inl (D 8))), (b5, .inl (cI, 31, .inl (D 9))), (b6, .inl (cI, 31, .inl (D 10)))]) [0, 1, 2, 3, 4, 5, 6, 7, 8, 9, 10, 11, 12] (by decide) rfl
      exact W.iret (v := (-1)) hx hb hr (fun t ht hW => ⟨⟨(-1), (), rfl, (pos_no (fun k hk9 => hk k (by omega))).symm, g_at hP9 hK hD9 ht hW⟩, hS.F ht⟩) hS.2.2 dX3_find_33
    · refine lv_aload_n hx hb dX3_find_12 rfl (lv_at hl 1 rfl) ?_
      refine va_get (D := G) (ci := 3) (v := .ref rr) (C := RX3) (T := TX3) (N := 6) hx hb hts iX3_find_X3 hown hK hP 0 rfl rfl 1 (by decide) (hts (.fieldLink RX3 11 "GhostPantryModel" "rows" "[[I") (by decide +kernel)) (fun _ h9 => h9) rfl dX3_find_13 ?_
      refine lv_iload_n hx hb dX3_find_16 rfl (lv_at hl 2 rfl) ?_
      refine g_aald hx hb hK hP 1 1 rfl rfl (i := 5) (by decide) (by decide) dX3_find_17 (b := b5) (rfl) ?_
      refine lv_iload_n hx hb dX3_find_18 rfl (lv_at hl 0 rfl) ?_
      refine g_iald hx hb hK hP 11 0 rfl rfl (i := i) (by omega) (by decide) dX3_find_19 (v := (P.getD i 0)) ((show Rw _ P from hM.2.2.2.2.1) _ (by omega)) ?_
      refine lv_iload_n hx hb dX3_find_20 rfl (lv_at hl 3 rfl) ?_
      refine lv_icmp_ne (tgt := 26) hx hb dX3_find_21 (by decide) (fun c_2 => ?_) (fun c_2 => ?_)
      · refine lv_iinc (v := (nI (i + 1))) (lv' := [(3, .int (nI (i + 1))), (0, .ref mo), (1, .int (nI 5)), (2, .int jar)]) hx hb dX3_find_26 hl (k := 0) rfl (nI_1 _) (by decide) rfl (fun ls hl => ?_)
        refine lv_goto (tgt := 2) hx hb dX3_find_29 (by decide) ?_
        have hk2 : ∀ k, k < i + 1 → P.getD k 0 ≠ jar := fun k hk9 => by
          rcases Nat.lt_or_ge k i with z | z
          · exact hk k z
          · have e : k = i := by omega
            rw [e]; assumption
        have hl9 := lv_sub (l' := [(3, .int (nI (i + 1))), (0, .ref mo), (1, .int (nI 5)), (2, .int jar)]) hl [0, 1, 2, 3] rfl
        first | exact ih ls (i + 1) hl9 (by omega) hk2 (by omega) | exact ih (i + 1) ls hl9 (by omega) hk2 (by omega)
      · refine lv_iload_n hx hb dX3_find_24 rfl (lv_at hl 0 rfl) ?_
        have hP9 := hP.sub (ws' := [(mo, .inr (3, [.int th, .ref rr, .ref si, .ref nb, .ref ak, .ref ha])), (rr, .inl (cR, 7, .inr (.inr (.inr (.inr (RW [b0, b1, b2, b3, b4, b5, b6])))))), (si, .inl (cI, 7, .inl (D 0))), (nb, .inl (cI, 6, .inl (D 1))), (ak, .inl (cI, 30, .inl (D 2))), (ha, .inl (cI, 30, .inl (D 3))), (b0, .inl (cI, 31, .inl (D 4))), (b1, .inl (cI, 31, .inl (D 5))), (b2, .inl (cI, 31, .inl (D 6))), (b3, .inl (cI, 31, .inl (D 7))), (b4, .inl (cI, 31, .inl (D 8))), (b5, .inl (cI, 31, .inl (D 9))), (b6, .inl (cI, 31, .inl (D 10)))]) [0, 1, 2, 3, 4, 5, 6, 7, 8, 9, 10, 11, 12] rfl
        have hD9 := hD.sub (ws' := [(mo, .inr (3, [.int th, .ref rr, .ref si, .ref nb, .ref ak, .ref ha])), (rr, .inl (cR, 7, .inr (.inr (.inr (.inr (RW [b0, b1, b2, b3, b4, b5, b6])))))), (si, .inl (cI, 7, .inl (D 0))), (nb, .inl (cI, 6, .inl (D 1))), (ak, .inl (cI, 30, .inl (D 2))), (ha, .inl (cI, 30, .inl (D 3))), (b0, .inl (cI, 31, .inl (D 4))), (b1, .inl (cI, 31, .inl (D 5))), (b2, .inl (cI, 31, .inl (D 6))), (b3, .inl (cI, 31, .inl (D 7))), (b4, .inl (cI, 31, .inl (D 8))), (b5, .inl (cI, 31, .inl (D 9))), (b6, .inl (cI, 31, .inl (D 10)))]) [0, 1, 2, 3, 4, 5, 6, 7, 8, 9, 10, 11, 12] (by decide) rfl
        exact W.iret (v := (nI i)) hx hb hr (fun t ht hW => ⟨⟨(nI i), (), rfl, (pos_at (by omega) hk (by assumption)).symm, g_at hP9 hK hD9 ht hW⟩, hS.F ht⟩) hS.2.2 dX3_find_25

set_option maxHeartbeats 4000000 in
set_option maxRecDepth 100000 in
theorem c_X3_where (l : Launch) (G : va_G) (cI cR : ClassId) (mo rr si nb ak ha b0 b1 b2 b3 b4 b5 b6 : Nat) (th : Int32) (D : Nat → Nat → Int32) (L1 L2 L3 L4 P M : List Int32) (rc bo : Nat) (nA nH nP nM : Int32) (KA TA : Nat → Int32) (hM : MOK D rc M ((L1, L2, L3, L4), P, bo, nA, nH, nP, nM, KA, TA)) (jar : Int32) (hb1 : L1.length ≤ 30) (hb2 : L2.length ≤ 30) (hb3 : L3.length ≤ 30) (hb4 : L4.length ≤ 30) (sz : Nat) : Met l yX3_where wsX3_where ({ frames := 1, cells := 0, slots := 0, locals := 23 }) (va_Pc [.ref mo, .int jar] (gpre G [(cI, .int), (cR, .array .int)] [(mo, .inr (3, [.int th, .ref rr, .ref si, .ref nb, .ref ak, .ref ha])), (rr, .inl (cR, 7, .inr (.inr (.inr (.inr (RW [b0, b1, b2, b3, b4, b5, b6])))))), (si, .inl (cI, 7, .inl (D 0))), (nb, .inl (cI, 6, .inl (D 1))), (ak, .inl (cI, 30, .inl (D 2))), (ha, .inl (cI, 30, .inl (D 3))), (b0, .inl (cI, 31, .inl (D 4))), (b1, .inl (cI, 31, .inl (D 5))), (b2, .inl (cI, 31, .inl (D 6))), (b3, .inl (cI, 31, .inl (D 7))), (b4, .inl (cI, 31, .inl (D 8))), (b5, .inl (cI, 31, .inl (D 9))), (b6, .inl (cI, 31, .inl (D 10)))] sz)) (va_Qi (fun (z : Int32) (_ : Unit) => z = nI (whr (L1, L2, L3, L4) jar)) (fun (_ : Unit) t => gat G [(cI, .int), (cR, .array .int)] (va_A [(mo, .inr (3, [.int th, .ref rr, .ref si, .ref nb, .ref ak, .ref ha])), (rr, .inl (cR, 7, .inr (.inr (.inr (.inr (RW [b0, b1, b2, b3, b4, b5, b6])))))), (si, .inl (cI, 7, .inl (D 0))), (nb, .inl (cI, 6, .inl (D 1))), (ak, .inl (cI, 30, .inl (D 2))), (ha, .inl (cI, 30, .inl (D 3))), (b0, .inl (cI, 31, .inl (D 4))), (b1, .inl (cI, 31, .inl (D 5))), (b2, .inl (cI, 31, .inl (D 6))), (b3, .inl (cI, 31, .inl (D 7))), (b4, .inl (cI, 31, .inl (D 8))), (b5, .inl (cI, 31, .inl (D 9))), (b6, .inl (cI, 31, .inl (D 10)))] sz) [(mo, .inr (3, [.int th, .ref rr, .ref si, .ref nb, .ref ak, .ref ha])), (rr, .inl (cR, 7, .inr (.inr (.inr (.inr (RW [b0, b1, b2, b3, b4, b5, b6])))))), (si, .inl (cI, 7, .inl (D 0))), (nb, .inl (cI, 6, .inl (D 1))), (ak, .inl (cI, 30, .inl (D 2))), (ha, .inl (cI, 30, .inl (D 3))), (b0, .inl (cI, 31, .inl (D 4))), (b1, .inl (cI, 31, .inl (D 5))), (b2, .inl (cI, 31, .inl (D 6))), (b3, .inl (cI, 31, .inl (D 7))), (b4, .inl (cI, 31, .inl (D 8))), (b5, .inl (cI, 31, .inl (D 9))), (b6, .inl (cI, 31, .inl (D 10)))] t) (va_A [(mo, .inr (3, [.int th, .ref rr, .ref si, .ref nb, .ref ak, .ref ha])), (rr, .inl (cR, 7, .inr (.inr (.inr (.inr (RW [b0, b1, b2, b3, b4, b5, b6])))))), (si, .inl (cI, 7, .inl (D 0))), (nb, .inl (cI, 6, .inl (D 1))), (ak, .inl (cI, 30, .inl (D 2))), (ha, .inl (cI, 30, .inl (D 3))), (b0, .inl (cI, 31, .inl (D 4))), (b1, .inl (cI, 31, .inl (D 5))), (b2, .inl (cI, 31, .inl (D 6))), (b3, .inl (cI, 31, .inl (D 7))), (b4, .inl (cI, 31, .inl (D 8))), (b5, .inl (cI, 31, .inl (D 9))), (b6, .inl (cI, 31, .inl (D 10)))] sz)) 0 0 (va_A [(mo, .inr (3, [.int th, .ref rr, .ref si, .ref nb, .ref ak, .ref ha])), (rr, .inl (cR, 7, .inr (.inr (.inr (.inr (RW [b0, b1, b2, b3, b4, b5, b6])))))), (si, .inl (cI, 7, .inl (D 0))), (nb, .inl (cI, 6, .inl (D 1))), (ak, .inl (cI, 30, .inl (D 2))), (ha, .inl (cI, 30, .inl (D 3))), (b0, .inl (cI, 31, .inl (D 4))), (b1, .inl (cI, 31, .inl (D 5))), (b2, .inl (cI, 31, .inl (D 6))), (b3, .inl (cI, 31, .inl (D 7))), (b4, .inl (cI, 31, .inl (D 8))), (b5, .inl (cI, 31, .inl (D 9))), (b6, .inl (cI, 31, .inl (D 10)))] sz) := by
  refine Met.ofW (cc := cX3_where) (maxL := 3) (ret := (some .int)) (by decide) rfl ?_
  intro p e s m args below meth c s₁ B hml hv
  obtain ⟨rfl, hsz, hP, hK, hD0⟩ := hv
  have hx := B.exec
  have hb := B.bytes
  have hr := B.returns
  have hts := atoms_spec (ws := wsX3_where) B.pre
  have hown : s.vm.findClass RX3 = some m.cls := findClass_of_methodNamed B.named
  have hlocks := B.notSynchronized
  subst hsz
  have hD := hD0.self (sz := s.heap.size)
  clear hD0
  generalize hAe : va_A [(mo, .inr (3, [.int th, .ref rr, .ref si, .ref nb, .ref ak, .ref ha])), (rr, .inl (cR, 7, .inr (.inr (.inr (.inr (RW [b0, b1, b2, b3, b4, b5, b6])))))), (si, .inl (cI, 7, .inl (D 0))), (nb, .inl (cI, 6, .inl (D 1))), (ak, .inl (cI, 30, .inl (D 2))), (ha, .inl (cI, 30, .inl (D 3))), (b0, .inl (cI, 31, .inl (D 4))), (b1, .inl (cI, 31, .inl (D 5))), (b2, .inl (cI, 31, .inl (D 6))), (b3, .inl (cI, 31, .inl (D 7))), (b4, .inl (cI, 31, .inl (D 8))), (b5, .inl (cI, 31, .inl (D 9))), (b6, .inl (cI, 31, .inl (D 10)))] s.heap.size = A at hD ⊢
  have hA : ∀ q : Nat, s.heap.size ≤ q → A q := fun q h => by rw [← hAe]; exact Or.inr h
  have hS : va_S A s.heap s.heap [] := va_S.rf
  have hP : va_P G vwCl [(mo, .inr (3, [.int th, .ref rr, .ref si, .ref nb, .ref ak, .ref ha])), (rr, .inl (cR, 7, .inr (.inr (.inr (.inr (RW [b0, b1, b2, b3, b4, b5, b6])))))), (si, .inl (cI, 7, .inl (D 0))), (nb, .inl (cI, 6, .inl (D 1))), (ak, .inl (cI, 30, .inl (D 2))), (ha, .inl (cI, 30, .inl (D 3))), (b0, .inl (cI, 31, .inl (D 4))), (b1, .inl (cI, 31, .inl (D 5))), (b2, .inl (cI, 31, .inl (D 6))), (b3, .inl (cI, 31, .inl (D 7))), (b4, .inl (cI, 31, .inl (D 8))), (b5, .inl (cI, 31, .inl (D 9))), (b6, .inl (cI, 31, .inl (D 10)))] s.heap := hP
  have hl := lv_entry ([.ref mo, .int jar]) (n := 3) (Nat.le_of_ble_eq_true rfl)
  rw [lg_entry_eq]
  generalize (lg_sl ([.ref mo, .int jar]) ++ List.replicate (3 - (lg_sl ([.ref mo, .int jar])).length) Slot.unset).toArray = ls at hl ⊢
  have hl : lv_has ls 3 [(0, .ref mo), (1, .int jar)] := hl
  refine lv_iconst (v := (nI 1)) hx hb dX3_where_0 (by decide +kernel) ?_
  refine lv_istore_n (lv' := [(2, .int (nI 1)), (0, .ref mo), (1, .int jar)]) hx hb dX3_where_1 rfl hl (by decide) rfl (fun ls hl => ?_)
  refine lv_iload_n hx hb dX3_where_2 rfl (lv_at hl 0 rfl) ?_
  refine lv_iconst (v := (nI 4)) hx hb dX3_where_3 (by decide +kernel) ?_
  refine g_icmp_gt (tgt := 25) hx hb dX3_where_4 (by decide) (by decide) (by decide) (fun c_1 => False.elim (by omega)) (fun c_1 => ?_)
  refine lv_aload_n hx hb dX3_where_7 rfl (lv_at hl 1 rfl) ?_
  refine lv_iload_n hx hb dX3_where_8 rfl (lv_at hl 0 rfl) ?_
  refine lv_iload_n hx hb dX3_where_9 rfl (lv_at hl 2 rfl) ?_
  have hPc := hP.sub (ws' := [(mo, .inr (3, [.int th, .ref rr, .ref si, .ref nb, .ref ak, .ref ha])), (rr, .inl (cR, 7, .inr (.inr (.inr (.inr (RW [b0, b1, b2, b3, b4, b5, b6])))))), (si, .inl (cI, 7, .inl (D 0))), (nb, .inl (cI, 6, .inl (D 1))), (ak, .inl (cI, 30, .inl (D 2))), (ha, .inl (cI, 30, .inl (D 3))), (b0, .inl (cI, 31, .inl (D 4))), (b1, .inl (cI, 31, .inl (D 5))), (b2, .inl (cI, 31, .inl (D 6))), (b3, .inl (cI, 31, .inl (D 7))), (b4, .inl (cI, 31, .inl (D 8))), (b5, .inl (cI, 31, .inl (D 9))), (b6, .inl (cI, 31, .inl (D 10)))]) [0, 1, 2, 3, 4, 5, 6, 7, 8, 9, 10, 11, 12] rfl
  have hDc := hD.sub (ws' := [(mo, .inr (3, [.int th, .ref rr, .ref si, .ref nb, .ref ak, .ref ha])), (rr, .inl (cR, 7, .inr (.inr (.inr (.inr (RW [b0, b1, b2, b3, b4, b5, b6])))))), (si, .inl (cI, 7, .inl (D 0))), (nb, .inl (cI, 6, .inl (D 1))), (ak, .inl (cI, 30, .inl (D 2))), (ha, .inl (cI, 30, .inl (D 3))), (b0, .inl (cI, 31, .inl (D 4))), (b1, .inl (cI, 31, .inl (D 5))), (b2, .inl (cI, 31, .inl (D 6))), (b3, .inl (cI, 31, .inl (D 7))), (b4, .inl (cI, 31, .inl (D 8))), (b5, .inl (cI, 31, .inl (D 9))), (b6, .inl (cI, 31, .inl (D 10)))]) [0, 1, 2, 3, 4, 5, 6, 7, 8, 9, 10, 11, 12] (by decide) rfl
  have hKc := hK.sub (tys' := [(cI, .int), (cR, .array .int)]) [0, 1] rfl
  have hFc := va_free (wc := [(mo, .inr (3, [.int th, .ref rr, .ref si, .ref nb, .ref ak, .ref ha])), (rr, .inl (cR, 7, .inr (.inr (.inr (.inr (RW [b0, b1, b2, b3, b4, b5, b6])))))), (si, .inl (cI, 7, .inl (D 0))), (nb, .inl (cI, 6, .inl (D 1))), (ak, .inl (cI, 30, .inl (D 2))), (ha, .inl (cI, 30, .inl (D 3))), (b0, .inl (cI, 31, .inl (D 4))), (b1, .inl (cI, 31, .inl (D 5))), (b2, .inl (cI, 31, .inl (D 6))), (b3, .inl (cI, 31, .inl (D 7))), (b4, .inl (cI, 31, .inl (D 8))), (b5, .inl (cI, 31, .inl (D 9))), (b6, .inl (cI, 31, .inl (D 10)))]) hD hS hA [0, 1, 2, 3, 4, 5, 6, 7, 8, 9, 10, 11, 12] rfl
  refine va_calli (va_runV (As := [.int (nI 1), .int jar]) (rest := []) ⟨hx, hb, hml, hown, hts⟩ (c_X3_find_1 l G cI cR mo rr si nb ak ha b0 b1 b2 b3 b4 b5 b6 th D L1 L2 L3 L4 P M rc bo nA nH nP nM KA TA hM jar (by omega) s.heap.size) (cwV 2 hts gX3_where_X3_find rfl rfl rfl (by decide +kernel) ⟨Nat.le_of_ble_eq_true rfl, Nat.le_of_ble_eq_true rfl⟩) (g_preV (As := [.int (nI 1), .int jar]) hPc hKc hDc 0 rfl rfl) rfl rfl hl.1 rfl (lv_room (Nat.le_of_ble_eq_true rfl)) dX3_where_10 ⟨(Nat.le_of_ble_eq_true rfl), (Nat.le_of_ble_eq_true rfl)⟩) hS (fun q _ h => hFc q h) hFc (fun r_3 u_4 t H_2 locs ht hvm hw hB hz1 hk1 hS1 => ?_)
  have hw := hw.symm
  subst hw
  obtain ⟨hP1, hD1⟩ := g_join (wc := [(mo, .inr (3, [.int th, .ref rr, .ref si, .ref nb, .ref ak, .ref ha])), (rr, .inl (cR, 7, .inr (.inr (.inr (.inr (RW [b0, b1, b2, b3, b4, b5, b6])))))), (si, .inl (cI, 7, .inl (D 0))), (nb, .inl (cI, 6, .inl (D 1))), (ak, .inl (cI, 30, .inl (D 2))), (ha, .inl (cI, 30, .inl (D 3))), (b0, .inl (cI, 31, .inl (D 4))), (b1, .inl (cI, 31, .inl (D 5))), (b2, .inl (cI, 31, .inl (D 6))), (b3, .inl (cI, 31, .inl (D 7))), (b4, .inl (cI, 31, .inl (D 8))), (b5, .inl (cI, 31, .inl (D 9))), (b6, .inl (cI, 31, .inl (D 10)))]) (wr := []) (w1 := [(mo, .inr (3, [.int th, .ref rr, .ref si, .ref nb, .ref ak, .ref ha])), (rr, .inl (cR, 7, .inr (.inr (.inr (.inr (RW [b0, b1, b2, b3, b4, b5, b6])))))), (si, .inl (cI, 7, .inl (D 0))), (nb, .inl (cI, 6, .inl (D 1))), (ak, .inl (cI, 30, .inl (D 2))), (ha, .inl (cI, 30, .inl (D 3))), (b0, .inl (cI, 31, .inl (D 4))), (b1, .inl (cI, 31, .inl (D 5))), (b2, .inl (cI, 31, .inl (D 6))), (b3, .inl (cI, 31, .inl (D 7))), (b4, .inl (cI, 31, .inl (D 8))), (b5, .inl (cI, 31, .inl (D 9))), (b6, .inl (cI, 31, .inl (D 10)))]) hP hD [0, 1, 2, 3, 4, 5, 6, 7, 8, 9, 10, 11, 12] [] rfl rfl (by decide) (by decide) ht hk1 hFc hB
  clear hB hk1 hz1 hvm ht hPc hDc hKc hFc
  clear hP hD hS
  have hP : va_P G vwCl [(mo, .inr (3, [.int th, .ref rr, .ref si, .ref nb, .ref ak, .ref ha])), (rr, .inl (cR, 7, .inr (.inr (.inr (.inr (RW [b0, b1, b2, b3, b4, b5, b6])))))), (si, .inl (cI, 7, .inl (D 0))), (nb, .inl (cI, 6, .inl (D 1))), (ak, .inl (cI, 30, .inl (D 2))), (ha, .inl (cI, 30, .inl (D 3))), (b0, .inl (cI, 31, .inl (D 4))), (b1, .inl (cI, 31, .inl (D 5))), (b2, .inl (cI, 31, .inl (D 6))), (b3, .inl (cI, 31, .inl (D 7))), (b4, .inl (cI, 31, .inl (D 8))), (b5, .inl (cI, 31, .inl (D 9))), (b6, .inl (cI, 31, .inl (D 10)))] H_2 := hP1
  have hD : va_D A [(mo, .inr (3, [.int th, .ref rr, .ref si, .ref nb, .ref ak, .ref ha])), (rr, .inl (cR, 7, .inr (.inr (.inr (.inr (RW [b0, b1, b2, b3, b4, b5, b6])))))), (si, .inl (cI, 7, .inl (D 0))), (nb, .inl (cI, 6, .inl (D 1))), (ak, .inl (cI, 30, .inl (D 2))), (ha, .inl (cI, 30, .inl (D 3))), (b0, .inl (cI, 31, .inl (D 4))), (b1, .inl (cI, 31, .inl (D 5))), (b2, .inl (cI, 31, .inl (D 6))), (b3, .inl (cI, 31, .inl (D 7))), (b4, .inl (cI, 31, .inl (D 8))), (b5, .inl (cI, 31, .inl (D 9))), (b6, .inl (cI, 31, .inl (D 10)))] := hD1
  have hS := hS1
  clear hP1 hD1 hS1
  refine lv_iconst (v := (-1)) hx hb dX3_where_13 (by decide +kernel) ?_
  refine lv_icmp_eq (tgt := 19) hx hb dX3_where_14 (by decide) (fun c_5 => ?_) (fun c_5 => ?_)
  · have m1 : jar ∉ L1 := pos_out (by omega) c_5
    refine lv_iinc (v := (nI 2)) (lv' := [(2, .int (nI 2)), (0, .ref mo), (1, .int jar)]) hx hb dX3_where_19 hl (k := 0) rfl (by decide +kernel) (by decide) rfl (fun ls hl => ?_)
    refine lv_goto (tgt := 2) hx hb dX3_where_22 (by decide) ?_
    refine lv_iload_n hx hb dX3_where_2 rfl (lv_at hl 0 rfl) ?_
    refine lv_iconst (v := (nI 4)) hx hb dX3_where_3 (by decide +kernel) ?_
    refine g_icmp_gt (tgt := 25) hx hb dX3_where_4 (by decide) (by decide) (by decide) (fun c_6 => False.elim (by omega)) (fun c_6 => ?_)
    refine lv_aload_n hx hb dX3_where_7 rfl (lv_at hl 1 rfl) ?_
    refine lv_iload_n hx hb dX3_where_8 rfl (lv_at hl 0 rfl) ?_
    refine lv_iload_n hx hb dX3_where_9 rfl (lv_at hl 2 rfl) ?_
    have hPc := hP.sub (ws' := [(mo, .inr (3, [.int th, .ref rr, .ref si, .ref nb, .ref ak, .ref ha])), (rr, .inl (cR, 7, .inr (.inr (.inr (.inr (RW [b0, b1, b2, b3, b4, b5, b6])))))), (si, .inl (cI, 7, .inl (D 0))), (nb, .inl (cI, 6, .inl (D 1))), (ak, .inl (cI, 30, .inl (D 2))), (ha, .inl (cI, 30, .inl (D 3))), (b0, .inl (cI, 31, .inl (D 4))), (b1, .inl (cI, 31, .inl (D 5))), (b2, .inl (cI, 31, .inl (D 6))), (b3, .inl (cI, 31, .inl (D 7))), (b4, .inl (cI, 31, .inl (D 8))), (b5, .inl (cI, 31, .inl (D 9))), (b6, .inl (cI, 31, .inl (D 10)))]) [0, 1, 2, 3, 4, 5, 6, 7, 8, 9, 10, 11, 12] rfl
    have hDc := hD.sub (ws' := [(mo, .inr (3, [.int th, .ref rr, .ref si, .ref nb, .ref ak, .ref ha])), (rr, .inl (cR, 7, .inr (.inr (.inr (.inr (RW [b0, b1, b2, b3, b4, b5, b6])))))), (si, .inl (cI, 7, .inl (D 0))), (nb, .inl (cI, 6, .inl (D 1))), (ak, .inl (cI, 30, .inl (D 2))), (ha, .inl (cI, 30, .inl (D 3))), (b0, .inl (cI, 31, .inl (D 4))), (b1, .inl (cI, 31, .inl (D 5))), (b2, .inl (cI, 31, .inl (D 6))), (b3, .inl (cI, 31, .inl (D 7))), (b4, .inl (cI, 31, .inl (D 8))), (b5, .inl (cI, 31, .inl (D 9))), (b6, .inl (cI, 31, .inl (D 10)))]) [0, 1, 2, 3, 4, 5, 6, 7, 8, 9, 10, 11, 12] (by decide) rfl
    have hKc := hK.sub (tys' := [(cI, .int), (cR, .array .int)]) [0, 1] rfl
    have hFc := va_free (wc := [(mo, .inr (3, [.int th, .ref rr, .ref si, .ref nb, .ref ak, .ref ha])), (rr, .inl (cR, 7, .inr (.inr (.inr (.inr (RW [b0, b1, b2, b3, b4, b5, b6])))))), (si, .inl (cI, 7, .inl (D 0))), (nb, .inl (cI, 6, .inl (D 1))), (ak, .inl (cI, 30, .inl (D 2))), (ha, .inl (cI, 30, .inl (D 3))), (b0, .inl (cI, 31, .inl (D 4))), (b1, .inl (cI, 31, .inl (D 5))), (b2, .inl (cI, 31, .inl (D 6))), (b3, .inl (cI, 31, .inl (D 7))), (b4, .inl (cI, 31, .inl (D 8))), (b5, .inl (cI, 31, .inl (D 9))), (b6, .inl (cI, 31, .inl (D 10)))]) hD hS hA [0, 1, 2, 3, 4, 5, 6, 7, 8, 9, 10, 11, 12] rfl
    refine va_calli (va_runV (As := [.int (nI 2), .int jar]) (rest := []) ⟨hx, hb, hml, hown, hts⟩ (c_X3_find_2 l G cI cR mo rr si nb ak ha b0 b1 b2 b3 b4 b5 b6 th D L1 L2 L3 L4 P M rc bo nA nH nP nM KA TA hM jar (by omega) H_2.size) (cwV 2 hts gX3_where_X3_find rfl rfl rfl (by decide +kernel) ⟨Nat.le_of_ble_eq_true rfl, Nat.le_of_ble_eq_true rfl⟩) (g_preV (As := [.int (nI 2), .int jar]) hPc hKc hDc 0 rfl rfl) rfl rfl hl.1 rfl (lv_room (Nat.le_of_ble_eq_true rfl)) dX3_where_10 ⟨(Nat.le_of_ble_eq_true rfl), (Nat.le_of_ble_eq_true rfl)⟩) hS (fun q _ h => hFc q h) hFc (fun r_8 u_9 t H_7 locs ht hvm hw hB hz1 hk1 hS1 => ?_)
    have hw := hw.symm
    subst hw
    obtain ⟨hP1, hD1⟩ := g_join (wc := [(mo, .inr (3, [.int th, .ref rr, .ref si, .ref nb, .ref ak, .ref ha])), (rr, .inl (cR, 7, .inr (.inr (.inr (.inr (RW [b0, b1, b2, b3, b4, b5, b6])))))), (si, .inl (cI, 7, .inl (D 0))), (nb, .inl (cI, 6, .inl (D 1))), (ak, .inl (cI, 30, .inl (D 2))), (ha, .inl (cI, 30, .inl (D 3))), (b0, .inl (cI, 31, .inl (D 4))), (b1, .inl (cI, 31, .inl (D 5))), (b2, .inl (cI, 31, .inl (D 6))), (b3, .inl (cI, 31, .inl (D 7))), (b4, .inl (cI, 31, .inl (D 8))), (b5, .inl (cI, 31, .inl (D 9))), (b6, .inl (cI, 31, .inl (D 10)))]) (wr := []) (w1 := [(mo, .inr (3, [.int th, .ref rr, .ref si, .ref nb, .ref ak, .ref ha])), (rr, .inl (cR, 7, .inr (.inr (.inr (.inr (RW [b0, b1, b2, b3, b4, b5, b6])))))), (si, .inl (cI, 7, .inl (D 0))), (nb, .inl (cI, 6, .inl (D 1))), (ak, .inl (cI, 30, .inl (D 2))), (ha, .inl (cI, 30, .inl (D 3))), (b0, .inl (cI, 31, .inl (D 4))), (b1, .inl (cI, 31, .inl (D 5))), (b2, .inl (cI, 31, .inl (D 6))), (b3, .inl (cI, 31, .inl (D 7))), (b4, .inl (cI, 31, .inl (D 8))), (b5, .inl (cI, 31, .inl (D 9))), (b6, .inl (cI, 31, .inl (D 10)))]) hP hD [0, 1, 2, 3, 4, 5, 6, 7, 8, 9, 10, 11, 12] [] rfl rfl (by decide) (by decide) ht hk1 hFc hB
    clear hB hk1 hz1 hvm ht hPc hDc hKc hFc
    clear hP hD hS
    have hP : va_P G vwCl [(mo, .inr (3, [.int th, .ref rr, .ref si, .ref nb, .ref ak, .ref ha])), (rr, .inl (cR, 7, .inr (.inr (.inr (.inr (RW [b0, b1, b2, b3, b4, b5, b6])))))), (si, .inl (cI, 7, .inl (D 0))), (nb, .inl (cI, 6, .inl (D 1))), (ak, .inl (cI, 30, .inl (D 2))), (ha, .inl (cI, 30, .inl (D 3))), (b0, .inl (cI, 31, .inl (D 4))), (b1, .inl (cI, 31, .inl (D 5))), (b2, .inl (cI, 31, .inl (D 6))), (b3, .inl (cI, 31, .inl (D 7))), (b4, .inl (cI, 31, .inl (D 8))), (b5, .inl (cI, 31, .inl (D 9))), (b6, .inl (cI, 31, .inl (D 10)))] H_7 := hP1
    have hD : va_D A [(mo, .inr (3, [.int th, .ref rr, .ref si, .ref nb, .ref ak, .ref ha])), (rr, .inl (cR, 7, .inr (.inr (.inr (.inr (RW [b0, b1, b2, b3, b4, b5, b6])))))), (si, .inl (cI, 7, .inl (D 0))), (nb, .inl (cI, 6, .inl (D 1))), (ak, .inl (cI, 30, .inl (D 2))), (ha, .inl (cI, 30, .inl (D 3))), (b0, .inl (cI, 31, .inl (D 4))), (b1, .inl (cI, 31, .inl (D 5))), (b2, .inl (cI, 31, .inl (D 6))), (b3, .inl (cI, 31, .inl (D 7))), (b4, .inl (cI, 31, .inl (D 8))), (b5, .inl (cI, 31, .inl (D 9))), (b6, .inl (cI, 31, .inl (D 10)))] := hD1
    have hS := hS1
    clear hP1 hD1 hS1
    refine lv_iconst (v := (-1)) hx hb dX3_where_13 (by decide +kernel) ?_
    refine lv_icmp_eq (tgt := 19) hx hb dX3_where_14 (by decide) (fun c_10 => ?_) (fun c_10 => ?_)
    · have m2 : jar ∉ L2 := pos_out (by omega) c_10
      refine lv_iinc (v := (nI 3)) (lv' := [(2, .int (nI 3)), (0, .ref mo), (1, .int jar)]) hx hb dX3_where_19 hl (k := 0) rfl (by decide +kernel) (by decide) rfl (fun ls hl => ?_)
      refine lv_goto (tgt := 2) hx hb dX3_where_22 (by decide) ?_
      refine lv_iload_n hx hb dX3_where_2 rfl (lv_at hl 0 rfl) ?_
      refine lv_iconst (v := (nI 4)) hx hb dX3_where_3 (by decide +kernel) ?_
      refine g_icmp_gt (tgt := 25) hx hb dX3_where_4 (by decide) (by decide) (by decide) (fun c_11 => False.elim (by omega)) (fun c_11 => ?_)
      refine lv_aload_n hx hb dX3_where_7 rfl (lv_at hl 1 rfl) ?_
      refine lv_iload_n hx hb dX3_where_8 rfl (lv_at hl 0 rfl) ?_
      refine lv_iload_n hx hb dX3_where_9 rfl (lv_at hl 2 rfl) ?_
      have hPc := hP.sub (ws' := [(mo, .inr (3, [.int th, .ref rr, .ref si, .ref nb, .ref ak, .ref ha])), (rr, .inl (cR, 7, .inr (.inr (.inr (.inr (RW [b0, b1, b2, b3, b4, b5, b6])))))), (si, .inl (cI, 7, .inl (D 0))), (nb, .inl (cI, 6, .inl (D 1))), (ak, .inl (cI, 30, .inl (D 2))), (ha, .inl (cI, 30, .inl (D 3))), (b0, .inl (cI, 31, .inl (D 4))), (b1, .inl (cI, 31, .inl (D 5))), (b2, .inl (cI, 31, .inl (D 6))), (b3, .inl (cI, 31, .inl (D 7))), (b4, .inl (cI, 31, .inl (D 8))), (b5, .inl (cI, 31, .inl (D 9))), (b6, .inl (cI, 31, .inl (D 10)))]) [0, 1, 2, 3, 4, 5, 6, 7, 8, 9, 10, 11, 12] rfl
      have hDc := hD.sub (ws' := [(mo, .inr (3, [.int th, .ref rr, .ref si, .ref nb, .ref ak, .ref ha])), (rr, .inl (cR, 7, .inr (.inr (.inr (.inr (RW [b0, b1, b2, b3, b4, b5, b6])))))), (si, .inl (cI, 7, .inl (D 0))), (nb, .inl (cI, 6, .inl (D 1))), (ak, .inl (cI, 30, .inl (D 2))), (ha, .inl (cI, 30, .inl (D 3))), (b0, .inl (cI, 31, .inl (D 4))), (b1, .inl (cI, 31, .inl (D 5))), (b2, .inl (cI, 31, .inl (D 6))), (b3, .inl (cI, 31, .inl (D 7))), (b4, .inl (cI, 31, .inl (D 8))), (b5, .inl (cI, 31, .inl (D 9))), (b6, .inl (cI, 31, .inl (D 10)))]) [0, 1, 2, 3, 4, 5, 6, 7, 8, 9, 10, 11, 12] (by decide) rfl
      have hKc := hK.sub (tys' := [(cI, .int), (cR, .array .int)]) [0, 1] rfl
      have hFc := va_free (wc := [(mo, .inr (3, [.int th, .ref rr, .ref si, .ref nb, .ref ak, .ref ha])), (rr, .inl (cR, 7, .inr (.inr (.inr (.inr (RW [b0, b1, b2, b3, b4, b5, b6])))))), (si, .inl (cI, 7, .inl (D 0))), (nb, .inl (cI, 6, .inl (D 1))), (ak, .inl (cI, 30, .inl (D 2))), (ha, .inl (cI, 30, .inl (D 3))), (b0, .inl (cI, 31, .inl (D 4))), (b1, .inl (cI, 31, .inl (D 5))), (b2, .inl (cI, 31, .inl (D 6))), (b3, .inl (cI, 31, .inl (D 7))), (b4, .inl (cI, 31, .inl (D 8))), (b5, .inl (cI, 31, .inl (D 9))), (b6, .inl (cI, 31, .inl (D 10)))]) hD hS hA [0, 1, 2, 3, 4, 5, 6, 7, 8, 9, 10, 11, 12] rfl
      refine va_calli (va_runV (As := [.int (nI 3), .int jar]) (rest := []) ⟨hx, hb, hml, hown, hts⟩ (c_X3_find_3 l G cI cR mo rr si nb ak ha b0 b1 b2 b3 b4 b5 b6 th D L1 L2 L3 L4 P M rc bo nA nH nP nM KA TA hM jar (by omega) H_7.size) (cwV 2 hts gX3_where_X3_find rfl rfl rfl (by decide +kernel) ⟨Nat.le_of_ble_eq_true rfl, Nat.le_of_ble_eq_true rfl⟩) (g_preV (As := [.int (nI 3), .int jar]) hPc hKc hDc 0 rfl rfl) rfl rfl hl.1 rfl (lv_room (Nat.le_of_ble_eq_true rfl)) dX3_where_10 ⟨(Nat.le_of_ble_eq_true rfl), (Nat.le_of_ble_eq_true rfl)⟩) hS (fun q _ h => hFc q h) hFc (fun r_13 u_14 t H_12 locs ht hvm hw hB hz1 hk1 hS1 => ?_)
      have hw := hw.symm
      subst hw
      obtain ⟨hP1, hD1⟩ := g_join (wc := [(mo, .inr (3, [.int th, .ref rr, .ref si, .ref nb, .ref ak, .ref ha])), (rr, .inl (cR, 7, .inr (.inr (.inr (.inr (RW [b0, b1, b2, b3, b4, b5, b6])))))), (si, .inl (cI, 7, .inl (D 0))), (nb, .inl (cI, 6, .inl (D 1))), (ak, .inl (cI, 30, .inl (D 2))), (ha, .inl (cI, 30, .inl (D 3))), (b0, .inl (cI, 31, .inl (D 4))), (b1, .inl (cI, 31, .inl (D 5))), (b2, .inl (cI, 31, .inl (D 6))), (b3, .inl (cI, 31, .inl (D 7))), (b4, .inl (cI, 31, .inl (D 8))), (b5, .inl (cI, 31, .inl (D 9))), (b6, .inl (cI, 31, .inl (D 10)))]) (wr := []) (w1 := [(mo, .inr (3, [.int th, .ref rr, .ref si, .ref nb, .ref ak, .ref ha])), (rr, .inl (cR, 7, .inr (.inr (.inr (.inr (RW [b0, b1, b2, b3, b4, b5, b6])))))), (si, .inl (cI, 7, .inl (D 0))), (nb, .inl (cI, 6, .inl (D 1))), (ak, .inl (cI, 30, .inl (D 2))), (ha, .inl (cI, 30, .inl (D 3))), (b0, .inl (cI, 31, .inl (D 4))), (b1, .inl (cI, 31, .inl (D 5))), (b2, .inl (cI, 31, .inl (D 6))), (b3, .inl (cI, 31, .inl (D 7))), (b4, .inl (cI, 31, .inl (D 8))), (b5, .inl (cI, 31, .inl (D 9))), (b6, .inl (cI, 31, .inl (D 10)))]) hP hD [0, 1, 2, 3, 4, 5, 6, 7, 8, 9, 10, 11, 12] [] rfl rfl (by decide) (by decide) ht hk1 hFc hB
      clear hB hk1 hz1 hvm ht hPc hDc hKc hFc
      clear hP hD hS
      have hP : va_P G vwCl [(mo, .inr (3, [.int th, .ref rr, .ref si, .ref nb, .ref ak, .ref ha])), (rr, .inl (cR, 7, .inr (.inr (.inr (.inr (RW [b0, b1, b2, b3, b4, b5, b6])))))), (si, .inl (cI, 7, .inl (D 0))), (nb, .inl (cI, 6, .inl (D 1))), (ak, .inl (cI, 30, .inl (D 2))), (ha, .inl (cI, 30, .inl (D 3))), (b0, .inl (cI, 31, .inl (D 4))), (b1, .inl (cI, 31, .inl (D 5))), (b2, .inl (cI, 31, .inl (D 6))), (b3, .inl (cI, 31, .inl (D 7))), (b4, .inl (cI, 31, .inl (D 8))), (b5, .inl (cI, 31, .inl (D 9))), (b6, .inl (cI, 31, .inl (D 10)))] H_12 := hP1
      have hD : va_D A [(mo, .inr (3, [.int th, .ref rr, .ref si, .ref nb, .ref ak, .ref ha])), (rr, .inl (cR, 7, .inr (.inr (.inr (.inr (RW [b0, b1, b2, b3, b4, b5, b6])))))), (si, .inl (cI, 7, .inl (D 0))), (nb, .inl (cI, 6, .inl (D 1))), (ak, .inl (cI, 30, .inl (D 2))), (ha, .inl (cI, 30, .inl (D 3))), (b0, .inl (cI, 31, .inl (D 4))), (b1, .inl (cI, 31, .inl (D 5))), (b2, .inl (cI, 31, .inl (D 6))), (b3, .inl (cI, 31, .inl (D 7))), (b4, .inl (cI, 31, .inl (D 8))), (b5, .inl (cI, 31, .inl (D 9))), (b6, .inl (cI, 31, .inl (D 10)))] := hD1
      have hS := hS1
      clear hP1 hD1 hS1
      refine lv_iconst (v := (-1)) hx hb dX3_where_13 (by decide +kernel) ?_
      refine lv_icmp_eq (tgt := 19) hx hb dX3_where_14 (by decide) (fun c_15 => ?_) (fun c_15 => ?_)
      · have m3 : jar ∉ L3 := pos_out (by omega) c_15
        refine lv_iinc (v := (nI 4)) (lv' := [(2, .int (nI 4)), (0, .ref mo), (1, .int jar)]) hx hb dX3_where_19 hl (k := 0) rfl (by decide +kernel) (by decide) rfl (fun ls hl => ?_)
        refine lv_goto (tgt := 2) hx hb dX3_where_22 (by decide) ?_
        refine lv_iload_n hx hb dX3_where_2 rfl (lv_at hl 0 rfl) ?_
        refine lv_iconst (v := (nI 4)) hx hb dX3_where_3 (by decide +kernel) ?_
        refine g_icmp_gt (tgt := 25) hx hb dX3_where_4 (by decide) (by decide) (by decide) (fun c_16 => False.elim (by omega)) (fun c_16 => ?_)
        refine lv_aload_n hx hb dX3_where_7 rfl (lv_at hl 1 rfl) ?_
        refine lv_iload_n hx hb dX3_where_8 rfl (lv_at hl 0 rfl) ?_
        refine lv_iload_n hx hb dX3_where_9 rfl (lv_at hl 2 rfl) ?_
        have hPc := hP.sub (ws' := [(mo, .inr (3, [.int th, .ref rr, .ref si, .ref nb, .ref ak, .ref ha])), (rr, .inl (cR, 7, .inr (.inr (.inr (.inr (RW [b0, b1, b2, b3, b4, b5, b6])))))), (si, .inl (cI, 7, .inl (D 0))), (nb, .inl (cI, 6, .inl (D 1))), (ak, .inl (cI, 30, .inl (D 2))), (ha, .inl (cI, 30, .inl (D 3))), (b0, .inl (cI, 31, .inl (D 4))), (b1, .inl (cI, 31, .inl (D 5))), (b2, .inl (cI, 31, .inl (D 6))), (b3, .inl (cI, 31, .inl (D 7))), (b4, .inl (cI, 31, .inl (D 8))), (b5, .inl (cI, 31, .inl (D 9))), (b6, .inl (cI, 31, .inl (D 10)))]) [0, 1, 2, 3, 4, 5, 6, 7, 8, 9, 10, 11, 12] rfl
        have hDc := hD.sub (ws' := [(mo, .inr (3, [.int th, .ref rr, .ref si, .ref nb, .ref ak, .ref ha])), (rr, .inl (cR, 7, .inr (.inr (.inr (.inr (RW [b0, b1, b2, b3, b4, b5, b6])))))), (si, .inl (cI, 7, .inl (D 0))), (nb, .inl (cI, 6, .inl (D 1))), (ak, .inl (cI, 30, .inl (D 2))), (ha, .inl (cI, 30, .inl (D 3))), (b0, .inl (cI, 31, .inl (D 4))), (b1, .inl (cI, 31, .inl (D 5))), (b2, .inl (cI, 31, .inl (D 6))), (b3, .inl (cI, 31, .inl (D 7))), (b4, .inl (cI, 31, .inl (D 8))), (b5, .inl (cI, 31, .inl (D 9))), (b6, .inl (cI, 31, .inl (D 10)))]) [0, 1, 2, 3, 4, 5, 6, 7, 8, 9, 10, 11, 12] (by decide) rfl
        have hKc := hK.sub (tys' := [(cI, .int), (cR, .array .int)]) [0, 1] rfl
        have hFc := va_free (wc := [(mo, .inr (3, [.int th, .ref rr, .ref si, .ref nb, .ref ak, .ref ha])), (rr, .inl (cR, 7, .inr (.inr (.inr (.inr (RW [b0, b1, b2, b3, b4, b5, b6])))))), (si, .inl (cI, 7, .inl (D 0))), (nb, .inl (cI, 6, .inl (D 1))), (ak, .inl (cI, 30, .inl (D 2))), (ha, .inl (cI, 30, .inl (D 3))), (b0, .inl (cI, 31, .inl (D 4))), (b1, .inl (cI, 31, .inl (D 5))), (b2, .inl (cI, 31, .inl (D 6))), (b3, .inl (cI, 31, .inl (D 7))), (b4, .inl (cI, 31, .inl (D 8))), (b5, .inl (cI, 31, .inl (D 9))), (b6, .inl (cI, 31, .inl (D 10)))]) hD hS hA [0, 1, 2, 3, 4, 5, 6, 7, 8, 9, 10, 11, 12] rfl
        refine va_calli (va_runV (As := [.int (nI 4), .int jar]) (rest := []) ⟨hx, hb, hml, hown, hts⟩ (c_X3_find_4 l G cI cR mo rr si nb ak ha b0 b1 b2 b3 b4 b5 b6 th D L1 L2 L3 L4 P M rc bo nA nH nP nM KA TA hM jar (by omega) H_12.size) (cwV 2 hts gX3_where_X3_find rfl rfl rfl (by decide +kernel) ⟨Nat.le_of_ble_eq_true rfl, Nat.le_of_ble_eq_true rfl⟩) (g_preV (As := [.int (nI 4), .int jar]) hPc hKc hDc 0 rfl rfl) rfl rfl hl.1 rfl (lv_room (Nat.le_of_ble_eq_true rfl)) dX3_where_10 ⟨(Nat.le_of_ble_eq_true rfl), (Nat.le_of_ble_eq_true rfl)⟩) hS (fun q _ h => hFc q h) hFc (fun r_18 u_19 t H_17 locs ht hvm hw hB hz1 hk1 hS1 => ?_)
        have hw := hw.symm
        subst hw
        obtain ⟨hP1, hD1⟩ := g_join (wc := [(mo, .inr (3, [.int th, .ref rr, .ref si, .ref nb, .ref ak, .ref ha])), (rr, .inl (cR, 7, .inr (.inr (.inr (.inr (RW [b0, b1, b2, b3, b4, b5, b6])))))), (si, .inl (cI, 7, .inl (D 0))), (nb, .inl (cI, 6, .inl (D 1))), (ak, .inl (cI, 30, .inl (D 2))), (ha, .inl (cI, 30, .inl (D 3))), (b0, .inl (cI, 31, .inl (D 4))), (b1, .inl (cI, 31, .inl (D 5))), (b2, .inl (cI, 31, .inl (D 6))), (b3, .inl (cI, 31, .inl (D 7))), (b4, .inl (cI, 31, .inl (D 8))), (b5, .inl (cI, 31, .inl (D 9))), (b6, .inl (cI, 31, .inl (D 10)))]) (wr := []) (w1 := [(mo, .inr (3, [.int th, .ref rr, .ref si, .ref nb, .ref ak, .ref ha])), (rr, .inl (cR, 7, .inr (.inr (.inr (.inr (RW [b0, b1, b2, b3, b4, b5, b6])))))), (si, .inl (cI, 7, .inl (D 0))), (nb, .inl (cI, 6, .inl (D 1))), (ak, .inl (cI, 30, .inl (D 2))), (ha, .inl (cI, 30, .inl (D 3))), (b0, .inl (cI, 31, .inl (D 4))), (b1, .inl (cI, 31, .inl (D 5))), (b2, .inl (cI, 31, .inl (D 6))), (b3, .inl (cI, 31, .inl (D 7))), (b4, .inl (cI, 31, .inl (D 8))), (b5, .inl (cI, 31, .inl (D 9))), (b6, .inl (cI, 31, .inl (D 10)))]) hP hD [0, 1, 2, 3, 4, 5, 6, 7, 8, 9, 10, 11, 12] [] rfl rfl (by decide) (by decide) ht hk1 hFc hB
        clear hB hk1 hz1 hvm ht hPc hDc hKc hFc
        clear hP hD hS
        have hP : va_P G vwCl [(mo, .inr (3, [.int th, .ref rr, .ref si, .ref nb, .ref ak, .ref ha])), (rr, .inl (cR, 7, .inr (.inr (.inr (.inr (RW [b0, b1, b2, b3, b4, b5, b6])))))), (si, .inl (cI, 7, .inl (D 0))), (nb, .inl (cI, 6, .inl (D 1))), (ak, .inl (cI, 30, .inl (D 2))), (ha, .inl (cI, 30, .inl (D 3))), (b0, .inl (cI, 31, .inl (D 4))), (b1, .inl (cI, 31, .inl (D 5))), (b2, .inl (cI, 31, .inl (D 6))), (b3, .inl (cI, 31, .inl (D 7))), (b4, .inl (cI, 31, .inl (D 8))), (b5, .inl (cI, 31, .inl (D 9))), (b6, .inl (cI, 31, .inl (D 10)))] H_17 := hP1
        have hD : va_D A [(mo, .inr (3, [.int th, .ref rr, .ref si, .ref nb, .ref ak, .ref ha])), (rr, .inl (cR, 7, .inr (.inr (.inr (.inr (RW [b0, b1, b2, b3, b4, b5, b6])))))), (si, .inl (cI, 7, .inl (D 0))), (nb, .inl (cI, 6, .inl (D 1))), (ak, .inl (cI, 30, .inl (D 2))), (ha, .inl (cI, 30, .inl (D 3))), (b0, .inl (cI, 31, .inl (D 4))), (b1, .inl (cI, 31, .inl (D 5))), (b2, .inl (cI, 31, .inl (D 6))), (b3, .inl (cI, 31, .inl (D 7))), (b4, .inl (cI, 31, .inl (D 8))), (b5, .inl (cI, 31, .inl (D 9))), (b6, .inl (cI, 31, .inl (D 10)))] := hD1
        have hS := hS1
        clear hP1 hD1 hS1
        refine lv_iconst (v := (-1)) hx hb dX3_where_13 (by decide +kernel) ?_
        refine lv_icmp_eq (tgt := 19) hx hb dX3_where_14 (by decide) (fun c_20 => ?_) (fun c_20 => ?_)
        · have m4 : jar ∉ L4 := pos_out (by omega) c_20
          refine lv_iinc (v := (nI 5)) (lv' := [(2, .int (nI 5)), (0, .ref mo), (1, .int jar)]) hx hb dX3_where_19 hl (k := 0) rfl (by decide +kernel) (by decide) rfl (fun ls hl => ?_)
          refine lv_goto (tgt := 2) hx hb dX3_where_22 (by decide) ?_
          refine lv_iload_n hx hb dX3_where_2 rfl (lv_at hl 0 rfl) ?_
          refine lv_iconst (v := (nI 4)) hx hb dX3_where_3 (by decide +kernel) ?_
          refine g_icmp_gt (tgt := 25) hx hb dX3_where_4 (by decide) (by decide) (by decide) (fun c_21 => ?_) (fun c_21 => False.elim (by omega))
          refine lv_iconst (v := (nI 0)) hx hb dX3_where_25 (by decide +kernel) ?_
          have hP9 := hP.sub (ws' := [(mo, .inr (3, [.int th, .ref rr, .ref si, .ref nb, .ref ak, .ref ha])), (rr, .inl (cR, 7, .inr (.inr (.inr (.inr (RW [b0, b1, b2, b3, b4, b5, b6])))))), (si, .inl (cI, 7, .inl (D 0))), (nb, .inl (cI, 6, .inl (D 1))), (ak, .inl (cI, 30, .inl (D 2))), (ha, .inl (cI, 30, .inl (D 3))), (b0, .inl (cI, 31, .inl (D 4))), (b1, .inl (cI, 31, .inl (D 5))), (b2, .inl (cI, 31, .inl (D 6))), (b3, .inl (cI, 31, .inl (D 7))), (b4, .inl (cI, 31, .inl (D 8))), (b5, .inl (cI, 31, .inl (D 9))), (b6, .inl (cI, 31, .inl (D 10)))]) [0, 1, 2, 3, 4, 5, 6, 7, 8, 9, 10, 11, 12] rfl
          have hD9 := hD.sub (ws' := [(mo, .inr (3, [.int th, .ref rr, .ref si, .ref nb, .ref ak, .ref ha])), (rr, .inl (cR, 7, .inr (.inr (.inr (.inr (RW [b0, b1, b2, b3, b4, b5, b6])))))), (si, .inl (cI, 7, .inl (D 0))), (nb, .inl (cI, 6, .inl (D 1))), (ak, .inl (cI, 30, .inl (D 2))), (ha, .inl (cI, 30, .inl (D 3))), (b0, .inl (cI, 31, .inl (D 4))), (b1, .inl (cI, 31, .inl (D 5))), (b2, .inl (cI, 31, .inl (D 6))), (b3, .inl (cI, 31, .inl (D 7))), (b4, .inl (cI, 31, .inl (D 8))), (b5, .inl (cI, 31, .inl (D 9))), (b6, .inl (cI, 31, .inl (D 10)))]) [0, 1, 2, 3, 4, 5, 6, 7, 8, 9, 10, 11, 12] (by decide) rfl
          exact W.iret (v := (nI 0)) hx hb hr (fun t ht hW => ⟨⟨(nI 0), (), rfl, (whr0 m1 m2 m3 m4), g_at hP9 hK hD9 ht hW⟩, hS.F ht⟩) hS.2.2 dX3_where_26
        · have m4 : jar ∈ L4 := pos_in (by omega) c_20
          refine lv_iload_n hx hb dX3_where_17 rfl (lv_at hl 0 rfl) ?_
          have hP9 := hP.sub (ws' := [(mo, .inr (3, [.int th, .ref rr, .ref si, .ref nb, .ref ak, .ref ha])), (rr, .inl (cR, 7, .inr (.inr (.inr (.inr (RW [b0, b1, b2, b3, b4, b5, b6])))))), (si, .inl (cI, 7, .inl (D 0))), (nb, .inl (cI, 6, .inl (D 1))), (ak, .inl (cI, 30, .inl (D 2))), (ha, .inl (cI, 30, .inl (D 3))), (b0, .inl (cI, 31, .inl (D 4))), (b1, .inl (cI, 31, .inl (D 5))), (b2, .inl (cI, 31, .inl (D 6))), (b3, .inl (cI, 31, .inl (D 7))), (b4, .inl (cI, 31, .inl (D 8))), (b5, .inl (cI, 31, .inl (D 9))), (b6, .inl (cI, 31, .inl (D 10)))]) [0, 1, 2, 3, 4, 5, 6, 7, 8, 9, 10, 11, 12] rfl
          have hD9 := hD.sub (ws' := [(mo, .inr (3, [.int th, .ref rr, .ref si, .ref nb, .ref ak, .ref ha])), (rr, .inl (cR, 7, .inr (.inr (.inr (.inr (RW [b0, b1, b2, b3, b4, b5, b6])))))), (si, .inl (cI, 7, .inl (D 0))), (nb, .inl (cI, 6, .inl (D 1))), (ak, .inl (cI, 30, .inl (D 2))), (ha, .inl (cI, 30, .inl (D 3))), (b0, .inl (cI, 31, .inl (D 4))), (b1, .inl (cI, 31, .inl (D 5))), (b2, .inl (cI, 31, .inl (D 6))), (b3, .inl (cI, 31, .inl (D 7))), (b4, .inl (cI, 31, .inl (D 8))), (b5, .inl (cI, 31, .inl (D 9))), (b6, .inl (cI, 31, .inl (D 10)))]) [0, 1, 2, 3, 4, 5, 6, 7, 8, 9, 10, 11, 12] (by decide) rfl
          exact W.iret (v := (nI 4)) hx hb hr (fun t ht hW => ⟨⟨(nI 4), (), rfl, (whr4 m1 m2 m3 m4), g_at hP9 hK hD9 ht hW⟩, hS.F ht⟩) hS.2.2 dX3_where_18
      · have m3 : jar ∈ L3 := pos_in (by omega) c_15
        refine lv_iload_n hx hb dX3_where_17 rfl (lv_at hl 0 rfl) ?_
        have hP9 := hP.sub (ws' := [(mo, .inr (3, [.int th, .ref rr, .ref si, .ref nb, .ref ak, .ref ha])), (rr, .inl (cR, 7, .inr (.inr (.inr (.inr (RW [b0, b1, b2, b3, b4, b5, b6])))))), (si, .inl (cI, 7, .inl (D 0))), (nb, .inl (cI, 6, .inl (D 1))), (ak, .inl (cI, 30, .inl (D 2))), (ha, .inl (cI, 30, .inl (D 3))), (b0, .inl (cI, 31, .inl (D 4))), (b1, .inl (cI, 31, .inl (D 5))), (b2, .inl (cI, 31, .inl (D 6))), (b3, .inl (cI, 31, .inl (D 7))), (b4, .inl (cI, 31, .inl (D 8))), (b5, .inl (cI, 31, .inl (D 9))), (b6, .inl (cI, 31, .inl (D 10)))]) [0, 1, 2, 3, 4, 5, 6, 7, 8, 9, 10, 11, 12] rfl
        have hD9 := hD.sub (ws' := [(mo, .inr (3, [.int th, .ref rr, .ref si, .ref nb, .ref ak, .ref ha])), (rr, .inl (cR, 7, .inr (.inr (.inr (.inr (RW [b0, b1, b2, b3, b4, b5, b6])))))), (si, .inl (cI, 7, .inl (D 0))), (nb, .inl (cI, 6, .inl (D 1))), (ak, .inl (cI, 30, .inl (D 2))), (ha, .inl (cI, 30, .inl (D 3))), (b0, .inl (cI, 31, .inl (D 4))), (b1, .inl (cI, 31, .inl (D 5))), (b2, .inl (cI, 31, .inl (D 6))), (b3, .inl (cI, 31, .inl (D 7))), (b4, .inl (cI, 31, .inl (D 8))), (b5, .inl (cI, 31, .inl (D 9))), (b6, .inl (cI, 31, .inl (D 10)))]) [0, 1, 2, 3, 4, 5, 6, 7, 8, 9, 10, 11, 12] (by decide) rfl
        exact W.iret (v := (nI 3)) hx hb hr (fun t ht hW => ⟨⟨(nI 3), (), rfl, (whr3 m1 m2 m3), g_at hP9 hK hD9 ht hW⟩, hS.F ht⟩) hS.2.2 dX3_where_18
    · have m2 : jar ∈ L2 := pos_in (by omega) c_10
      refine lv_iload_n hx hb dX3_where_17 rfl (lv_at hl 0 rfl) ?_
      have hP9 := hP.sub (ws' := [(mo, .inr (3, [.int th, .ref rr, .ref si, .ref nb, .ref ak, .ref ha])), (rr, .inl (cR, 7, .inr (.inr (.inr (.inr (RW [b0, b1, b2, b3, b4, b5, b6])))))), (si, .inl (cI, 7, .inl (D 0))), (nb, .inl (cI, 6, .inl (D 1))), (ak, .inl (cI, 30, .inl (D 2))), (ha, .inl (cI, 30, .inl (D 3))), (b0, .inl (cI, 31, .inl (D 4))), (b1, .inl (cI, 31, .inl (D 5))), (b2, .inl (cI, 31, .inl (D 6))), (b3, .inl (cI, 31, .inl (D 7))), (b4, .inl (cI, 31, .inl (D 8))), (b5, .inl (cI, 31, .inl (D 9))), (b6, .inl (cI, 31, .inl (D 10)))]) [0, 1, 2, 3, 4, 5, 6, 7, 8, 9, 10, 11, 12] rfl
      have hD9 := hD.sub (ws' := [(mo, .inr (3, [.int th, .ref rr, .ref si, .ref nb, .ref ak, .ref ha])), (rr, .inl (cR, 7, .inr (.inr (.inr (.inr (RW [b0, b1, b2, b3, b4, b5, b6])))))), (si, .inl (cI, 7, .inl (D 0))), (nb, .inl (cI, 6, .inl (D 1))), (ak, .inl (cI, 30, .inl (D 2))), (ha, .inl (cI, 30, .inl (D 3))), (b0, .inl (cI, 31, .inl (D 4))), (b1, .inl (cI, 31, .inl (D 5))), (b2, .inl (cI, 31, .inl (D 6))), (b3, .inl (cI, 31, .inl (D 7))), (b4, .inl (cI, 31, .inl (D 8))), (b5, .inl (cI, 31, .inl (D 9))), (b6, .inl (cI, 31, .inl (D 10)))]) [0, 1, 2, 3, 4, 5, 6, 7, 8, 9, 10, 11, 12] (by decide) rfl
      exact W.iret (v := (nI 2)) hx hb hr (fun t ht hW => ⟨⟨(nI 2), (), rfl, (whr2 m1 m2), g_at hP9 hK hD9 ht hW⟩, hS.F ht⟩) hS.2.2 dX3_where_18
  · have m1 : jar ∈ L1 := pos_in (by omega) c_5
    refine lv_iload_n hx hb dX3_where_17 rfl (lv_at hl 0 rfl) ?_
    have hP9 := hP.sub (ws' := [(mo, .inr (3, [.int th, .ref rr, .ref si, .ref nb, .ref ak, .ref ha])), (rr, .inl (cR, 7, .inr (.inr (.inr (.inr (RW [b0, b1, b2, b3, b4, b5, b6])))))), (si, .inl (cI, 7, .inl (D 0))), (nb, .inl (cI, 6, .inl (D 1))), (ak, .inl (cI, 30, .inl (D 2))), (ha, .inl (cI, 30, .inl (D 3))), (b0, .inl (cI, 31, .inl (D 4))), (b1, .inl (cI, 31, .inl (D 5))), (b2, .inl (cI, 31, .inl (D 6))), (b3, .inl (cI, 31, .inl (D 7))), (b4, .inl (cI, 31, .inl (D 8))), (b5, .inl (cI, 31, .inl (D 9))), (b6, .inl (cI, 31, .inl (D 10)))]) [0, 1, 2, 3, 4, 5, 6, 7, 8, 9, 10, 11, 12] rfl
    have hD9 := hD.sub (ws' := [(mo, .inr (3, [.int th, .ref rr, .ref si, .ref nb, .ref ak, .ref ha])), (rr, .inl (cR, 7, .inr (.inr (.inr (.inr (RW [b0, b1, b2, b3, b4, b5, b6])))))), (si, .inl (cI, 7, .inl (D 0))), (nb, .inl (cI, 6, .inl (D 1))), (ak, .inl (cI, 30, .inl (D 2))), (ha, .inl (cI, 30, .inl (D 3))), (b0, .inl (cI, 31, .inl (D 4))), (b1, .inl (cI, 31, .inl (D 5))), (b2, .inl (cI, 31, .inl (D 6))), (b3, .inl (cI, 31, .inl (D 7))), (b4, .inl (cI, 31, .inl (D 8))), (b5, .inl (cI, 31, .inl (D 9))), (b6, .inl (cI, 31, .inl (D 10)))]) [0, 1, 2, 3, 4, 5, 6, 7, 8, 9, 10, 11, 12] (by decide) rfl
    exact W.iret (v := (nI 1)) hx hb hr (fun t ht hW => ⟨⟨(nI 1), (), rfl, (whr1 m1), g_at hP9 hK hD9 ht hW⟩, hS.F ht⟩) hS.2.2 dX3_where_18

set_option maxRecDepth 20000 in
theorem iX3_toFront_X3 : ∀ w ∈ wsX30, w ∈ wsX3_toFront := by decide +kernel
set_option maxHeartbeats 4000000 in
set_option maxRecDepth 100000 in
theorem c_X3_toFront_1 (l : Launch) (G : va_G) (cI cR : ClassId) (mo rr si nb ak ha b0 b1 b2 b3 b4 b5 b6 : Nat) (th : Int32) (D : Nat → Nat → Int32) (L1 L2 L3 L4 P M : List Int32) (rc bo : Nat) (nA nH nP nM : Int32) (KA TA : Nat → Int32) (hM : MOK D rc M ((L1, L2, L3, L4), P, bo, nA, nH, nP, nM, KA, TA)) (jar : Int32) (h30 : L1.length ≤ 30) (sz : Nat) : Met l yX3_toFront wsX3_toFront ({ frames := 1, cells := 0, slots := 0, locals := 18 }) (va_Pc [.ref mo, .int (nI 1), .int jar] (gpre G [(cI, .int), (cR, .array .int)] [(mo, .inr (3, [.int th, .ref rr, .ref si, .ref nb, .ref ak, .ref ha])), (rr, .inl (cR, 7, .inr (.inr (.inr (.inr (RW [b0, b1, b2, b3, b4, b5, b6])))))), (si, .inl (cI, 7, .inl (D 0))), (nb, .inl (cI, 6, .inl (D 1))), (ak, .inl (cI, 30, .inl (D 2))), (ha, .inl (cI, 30, .inl (D 3))), (b0, .inl (cI, 31, .inl (D 4))), (b1, .inl (cI, 31, .inl (D 5))), (b2, .inl (cI, 31, .inl (D 6))), (b3, .inl (cI, 31, .inl (D 7))), (b4, .inl (cI, 31, .inl (D 8))), (b5, .inl (cI, 31, .inl (D 9))), (b6, .inl (cI, 31, .inl (D 10)))] sz)) (va_Qv (fun (_ : Unit) => True) (fun (_ : Unit) t => ∃ D' : Nat → Nat → Int32, MOK D' rc M (((jar :: L1), L2, L3, L4), P, bo, nA, nH, nP, nM, KA, TA) ∧ gat G [(cI, .int), (cR, .array .int)] (va_A [(mo, .inr (3, [.int th, .ref rr, .ref si, .ref nb, .ref ak, .ref ha])), (rr, .inl (cR, 7, .inr (.inr (.inr (.inr (RW [b0, b1, b2, b3, b4, b5, b6])))))), (si, .inl (cI, 7, .inl (D 0))), (nb, .inl (cI, 6, .inl (D 1))), (ak, .inl (cI, 30, .inl (D 2))), (ha, .inl (cI, 30, .inl (D 3))), (b0, .inl (cI, 31, .inl (D 4))), (b1, .inl (cI, 31, .inl (D 5))), (b2, .inl (cI, 31, .inl (D 6))), (b3, .inl (cI, 31, .inl (D 7))), (b4, .inl (cI, 31, .inl (D 8))), (b5, .inl (cI, 31, .inl (D 9))), (b6, .inl (cI, 31, .inl (D 10)))] sz) [(mo, .inr (3, [.int th, .ref rr, .ref si, .ref nb, .ref ak, .ref ha])), (rr, .inl (cR, 7, .inr (.inr (.inr (.inr (RW [b0, b1, b2, b3, b4, b5, b6])))))), (si, .inl (cI, 7, .inl (D' 0))), (nb, .inl (cI, 6, .inl (D' 1))), (ak, .inl (cI, 30, .inl (D' 2))), (ha, .inl (cI, 30, .inl (D' 3))), (b0, .inl (cI, 31, .inl (D' 4))), (b1, .inl (cI, 31, .inl (D' 5))), (b2, .inl (cI, 31, .inl (D' 6))), (b3, .inl (cI, 31, .inl (D' 7))), (b4, .inl (cI, 31, .inl (D' 8))), (b5, .inl (cI, 31, .inl (D' 9))), (b6, .inl (cI, 31, .inl (D' 10)))] t) (va_A [(mo, .inr (3, [.int th, .ref rr, .ref si, .ref nb, .ref ak, .ref ha])), (rr, .inl (cR, 7, .inr (.inr (.inr (.inr (RW [b0, b1, b2, b3, b4, b5, b6])))))), (si, .inl (cI, 7, .inl (D 0))), (nb, .inl (cI, 6, .inl (D 1))), (ak, .inl (cI, 30, .inl (D 2))), (ha, .inl (cI, 30, .inl (D 3))), (b0, .inl (cI, 31, .inl (D 4))), (b1, .inl (cI, 31, .inl (D 5))), (b2, .inl (cI, 31, .inl (D 6))), (b3, .inl (cI, 31, .inl (D 7))), (b4, .inl (cI, 31, .inl (D 8))), (b5, .inl (cI, 31, .inl (D 9))), (b6, .inl (cI, 31, .inl (D 10)))] sz)) 0 0 (va_A [(mo, .inr (3, [.int th, .ref rr, .ref si, .ref nb, .ref ak, .ref ha])), (rr, .inl (cR, 7, .inr (.inr (.inr (.inr (RW [b0, b1, b2, b3, b4, b5, b6])))))), (si, .inl (cI, 7, .inl (D 0))), (nb, .inl (cI, 6, .inl (D 1))), (ak, .inl (cI, 30, .inl (D 2))), (ha, .inl (cI, 30, .inl (D 3))), (b0, .inl (cI, 31, .inl (D 4))), (b1, .inl (cI, 31, .inl (D 5))), (b2, .inl (cI, 31, .inl (D 6))), (b3, .inl (cI, 31, .inl (D 7))), (b4, .inl (cI, 31, .inl (D 8))), (b5, .inl (cI, 31, .inl (D 9))), (b6, .inl (cI, 31, .inl (D 10)))] sz) := by
  refine Met.ofW (cc := cX3_toFront) (maxL := 3) (ret := none) (by decide) rfl ?_
  intro p e s m args below meth c s₁ B hml hv
  obtain ⟨rfl, hsz, hP, hK, hD0⟩ := hv
  have hx := B.exec
  have hb := B.bytes
  have hr := B.returns
  have hts := atoms_spec (ws := wsX3_toFront) B.pre
  have hown : s.vm.findClass RX3 = some m.cls := findClass_of_methodNamed B.named
  have hlocks := B.notSynchronized
  subst hsz
  have hD := hD0.self (sz := s.heap.size)
  clear hD0
  generalize hAe : va_A [(mo, .inr (3, [.int th, .ref rr, .ref si, .ref nb, .ref ak, .ref ha])), (rr, .inl (cR, 7, .inr (.inr (.inr (.inr (RW [b0, b1, b2, b3, b4, b5, b6])))))), (si, .inl (cI, 7, .inl (D 0))), (nb, .inl (cI, 6, .inl (D 1))), (ak, .inl (cI, 30, .inl (D 2))), (ha, .inl (cI, 30, .inl (D 3))), (b0, .inl (cI, 31, .inl (D 4))), (b1, .inl (cI, 31, .inl (D 5))), (b2, .inl (cI, 31, .inl (D 6))), (b3, .inl (cI, 31, .inl (D 7))), (b4, .inl (cI, 31, .inl (D 8))), (b5, .inl (cI, 31, .inl (D 9))), (b6, .inl (cI, 31, .inl (D 10)))] s.heap.size = A at hD ⊢
  have hA : ∀ q : Nat, s.heap.size ≤ q → A q := fun q h => by rw [← hAe]; exact Or.inr h
  have hS : va_S A s.heap s.heap [] := va_S.rf
  have hP : va_P G vwCl [(mo, .inr (3, [.int th, .ref rr, .ref si, .ref nb, .ref ak, .ref ha])), (rr, .inl (cR, 7, .inr (.inr (.inr (.inr (RW [b0, b1, b2, b3, b4, b5, b6])))))), (si, .inl (cI, 7, .inl (D 0))), (nb, .inl (cI, 6, .inl (D 1))), (ak, .inl (cI, 30, .inl (D 2))), (ha, .inl (cI, 30, .inl (D 3))), (b0, .inl (cI, 31, .inl (D 4))), (b1, .inl (cI, 31, .inl (D 5))), (b2, .inl (cI, 31, .inl (D 6))), (b3, .inl (cI, 31, .inl (D 7))), (b4, .inl (cI, 31, .inl (D 8))), (b5, .inl (cI, 31, .inl (D 9))), (b6, .inl (cI, 31, .inl (D 10)))] s.heap := hP
  have hl := lv_entry ([.ref mo, .int (nI 1), .int jar]) (n := 3) (Nat.le_of_ble_eq_true rfl)
  rw [lg_entry_eq]
  generalize (lg_sl ([.ref mo, .int (nI 1), .int jar]) ++ List.replicate (3 - (lg_sl ([.ref mo, .int (nI 1), .int jar])).length) Slot.unset).toArray = ls at hl ⊢
  have hl : lv_has ls 3 [(0, .ref mo), (1, .int (nI 1)), (2, .int jar)] := hl
  refine lv_aload_n hx hb dX3_toFront_0 rfl (lv_at hl 0 rfl) ?_
  refine va_get (D := G) (ci := 3) (v := .ref rr) (C := RX3) (T := TX3) (N := 6) hx hb hts iX3_toFront_X3 hown hK hP 0 rfl rfl 1 (by decide) (hts (.fieldLink RX3 11 "GhostPantryModel" "rows" "[[I") (by decide +kernel)) (fun _ h9 => h9) rfl dX3_toFront_1 ?_
  refine lv_iload_n hx hb dX3_toFront_4 rfl (lv_at hl 1 rfl) ?_
  refine g_aald hx hb hK hP 1 1 rfl rfl (i := 1) (by decide) (by decide) dX3_toFront_5 (b := b1) (rfl) ?_
  refine lv_iconst (v := (nI 0)) hx hb dX3_toFront_6 (by decide +kernel) ?_
  refine lv_aload_n hx hb dX3_toFront_7 rfl (lv_at hl 0 rfl) ?_
  refine va_get (D := G) (ci := 3) (v := .ref rr) (C := RX3) (T := TX3) (N := 6) hx hb hts iX3_toFront_X3 hown hK hP 0 rfl rfl 1 (by decide) (hts (.fieldLink RX3 11 "GhostPantryModel" "rows" "[[I") (by decide +kernel)) (fun _ h9 => h9) rfl dX3_toFront_8 ?_
  refine lv_iload_n hx hb dX3_toFront_11 rfl (lv_at hl 1 rfl) ?_
  refine g_aald hx hb hK hP 1 1 rfl rfl (i := 1) (by decide) (by decide) dX3_toFront_12 (b := b1) (rfl) ?_
  refine lv_iconst (v := (nI 1)) hx hb dX3_toFront_13 (by decide +kernel) ?_
  refine lv_aload_n hx hb dX3_toFront_14 rfl (lv_at hl 0 rfl) ?_
  refine va_get (D := G) (ci := 3) (v := .ref si) (C := RX3) (T := TX3) (N := 6) hx hb hts iX3_toFront_X3 hown hK hP 0 rfl rfl 2 (by decide) (hts (.fieldLink RX3 14 "GhostPantryModel" "sizes" "[I") (by decide +kernel)) (fun _ h9 => h9) rfl dX3_toFront_15 ?_
  refine lv_iload_n hx hb dX3_toFront_18 rfl (lv_at hl 1 rfl) ?_
  refine g_iald hx hb hK hP 2 0 rfl rfl (i := 1) (by decide) (by decide) dX3_toFront_19 (v := (nI L1.length)) (hM.2.2.2.2.2.2.1) ?_
  refine g_copyi hx hb (hml.trans hl.1.symm) hown (hts (.methodLink RX3 39 arraycopyName) (by decide +kernel)) (hts (.native arraycopyName) (by decide +kernel)) (hts (.static arraycopyName) (by decide +kernel)) (hts (.initialized "java/lang/System") (by decide +kernel)) hK hP hD hS 7 7 0 rfl rfl rfl (sp := 0) (dp := 1) (n := L1.length) (by decide) (by decide) (by omega) (by omega) (by omega) (Nat.le_of_ble_eq_true rfl) (Nat.le_of_ble_eq_true rfl) dX3_toFront_20 (fun H_1 locs hP1 hD1 hS1 => ?_)
  clear hP hD hS
  have hP : va_P G vwCl [(mo, .inr (3, [.int th, .ref rr, .ref si, .ref nb, .ref ak, .ref ha])), (rr, .inl (cR, 7, .inr (.inr (.inr (.inr (RW [b0, b1, b2, b3, b4, b5, b6])))))), (si, .inl (cI, 7, .inl (D 0))), (nb, .inl (cI, 6, .inl (D 1))), (ak, .inl (cI, 30, .inl (D 2))), (ha, .inl (cI, 30, .inl (D 3))), (b0, .inl (cI, 31, .inl (D 4))), (b1, .inl (cI, 31, .inl (va_cpy (D 5) (D 5) 0 1 L1.length))), (b2, .inl (cI, 31, .inl (D 6))), (b3, .inl (cI, 31, .inl (D 7))), (b4, .inl (cI, 31, .inl (D 8))), (b5, .inl (cI, 31, .inl (D 9))), (b6, .inl (cI, 31, .inl (D 10)))] H_1 := hP1
  have hD : va_D A [(mo, .inr (3, [.int th, .ref rr, .ref si, .ref nb, .ref ak, .ref ha])), (rr, .inl (cR, 7, .inr (.inr (.inr (.inr (RW [b0, b1, b2, b3, b4, b5, b6])))))), (si, .inl (cI, 7, .inl (D 0))), (nb, .inl (cI, 6, .inl (D 1))), (ak, .inl (cI, 30, .inl (D 2))), (ha, .inl (cI, 30, .inl (D 3))), (b0, .inl (cI, 31, .inl (D 4))), (b1, .inl (cI, 31, .inl (va_cpy (D 5) (D 5) 0 1 L1.length))), (b2, .inl (cI, 31, .inl (D 6))), (b3, .inl (cI, 31, .inl (D 7))), (b4, .inl (cI, 31, .inl (D 8))), (b5, .inl (cI, 31, .inl (D 9))), (b6, .inl (cI, 31, .inl (D 10)))] := hD1
  have hS := hS1
  clear hP1 hD1 hS1
  refine lv_aload_n hx hb dX3_toFront_23 rfl (lv_at hl 0 rfl) ?_
  refine va_get (D := G) (ci := 3) (v := .ref rr) (C := RX3) (T := TX3) (N := 6) hx hb hts iX3_toFront_X3 hown hK hP 0 rfl rfl 1 (by decide) (hts (.fieldLink RX3 11 "GhostPantryModel" "rows" "[[I") (by decide +kernel)) (fun _ h9 => h9) rfl dX3_toFront_24 ?_
  refine lv_iload_n hx hb dX3_toFront_27 rfl (lv_at hl 1 rfl) ?_
  refine g_aald hx hb hK hP 1 1 rfl rfl (i := 1) (by decide) (by decide) dX3_toFront_28 (b := b1) (rfl) ?_
  refine lv_iconst (v := (nI 0)) hx hb dX3_toFront_29 (by decide +kernel) ?_
  refine lv_iload_n hx hb dX3_toFront_30 rfl (lv_at hl 2 rfl) ?_
  refine g_iast hx hb hK hP hD hS 7 0 rfl rfl (i := 0) (x := jar) (by decide) (by decide) dX3_toFront_31 (fun H_2 locs hP1 hD1 hS1 => ?_)
  clear hP hD hS
  have hP : va_P G vwCl [(mo, .inr (3, [.int th, .ref rr, .ref si, .ref nb, .ref ak, .ref ha])), (rr, .inl (cR, 7, .inr (.inr (.inr (.inr (RW [b0, b1, b2, b3, b4, b5, b6])))))), (si, .inl (cI, 7, .inl (D 0))), (nb, .inl (cI, 6, .inl (D 1))), (ak, .inl (cI, 30, .inl (D 2))), (ha, .inl (cI, 30, .inl (D 3))), (b0, .inl (cI, 31, .inl (D 4))), (b1, .inl (cI, 31, .inl (upd (va_cpy (D 5) (D 5) 0 1 L1.length) 0 jar))), (b2, .inl (cI, 31, .inl (D 6))), (b3, .inl (cI, 31, .inl (D 7))), (b4, .inl (cI, 31, .inl (D 8))), (b5, .inl (cI, 31, .inl (D 9))), (b6, .inl (cI, 31, .inl (D 10)))] H_2 := hP1
  have hD : va_D A [(mo, .inr (3, [.int th, .ref rr, .ref si, .ref nb, .ref ak, .ref ha])), (rr, .inl (cR, 7, .inr (.inr (.inr (.inr (RW [b0, b1, b2, b3, b4, b5, b6])))))), (si, .inl (cI, 7, .inl (D 0))), (nb, .inl (cI, 6, .inl (D 1))), (ak, .inl (cI, 30, .inl (D 2))), (ha, .inl (cI, 30, .inl (D 3))), (b0, .inl (cI, 31, .inl (D 4))), (b1, .inl (cI, 31, .inl (upd (va_cpy (D 5) (D 5) 0 1 L1.length) 0 jar))), (b2, .inl (cI, 31, .inl (D 6))), (b3, .inl (cI, 31, .inl (D 7))), (b4, .inl (cI, 31, .inl (D 8))), (b5, .inl (cI, 31, .inl (D 9))), (b6, .inl (cI, 31, .inl (D 10)))] := hD1
  have hS := hS1
  clear hP1 hD1 hS1
  refine lv_aload_n hx hb dX3_toFront_32 rfl (lv_at hl 0 rfl) ?_
  refine va_get (D := G) (ci := 3) (v := .ref si) (C := RX3) (T := TX3) (N := 6) hx hb hts iX3_toFront_X3 hown hK hP 0 rfl rfl 2 (by decide) (hts (.fieldLink RX3 14 "GhostPantryModel" "sizes" "[I") (by decide +kernel)) (fun _ h9 => h9) rfl dX3_toFront_33 ?_
  refine lv_iload_n hx hb dX3_toFront_36 rfl (lv_at hl 1 rfl) ?_
  refine lv_dup2_11 hx hb dX3_toFront_37 rfl rfl ?_
  refine g_iald hx hb hK hP 2 0 rfl rfl (i := 1) (by decide) (by decide) dX3_toFront_38 (v := (nI L1.length)) (hM.2.2.2.2.2.2.1) ?_
  refine lv_iconst (v := (nI 1)) hx hb dX3_toFront_39 (by decide +kernel) ?_
  refine g_iadd hx hb dX3_toFront_40 ?_
  refine g_iast hx hb hK hP hD hS 2 0 rfl rfl (i := 1) (x := (nI (L1.length + 1))) (by decide) (by decide) dX3_toFront_41 (fun H_3 locs hP1 hD1 hS1 => ?_)
  clear hP hD hS
  have hP : va_P G vwCl [(mo, .inr (3, [.int th, .ref rr, .ref si, .ref nb, .ref ak, .ref ha])), (rr, .inl (cR, 7, .inr (.inr (.inr (.inr (RW [b0, b1, b2, b3, b4, b5, b6])))))), (si, .inl (cI, 7, .inl (upd (D 0) 1 (nI (L1.length + 1))))), (nb, .inl (cI, 6, .inl (D 1))), (ak, .inl (cI, 30, .inl (D 2))), (ha, .inl (cI, 30, .inl (D 3))), (b0, .inl (cI, 31, .inl (D 4))), (b1, .inl (cI, 31, .inl (upd (va_cpy (D 5) (D 5) 0 1 L1.length) 0 jar))), (b2, .inl (cI, 31, .inl (D 6))), (b3, .inl (cI, 31, .inl (D 7))), (b4, .inl (cI, 31, .inl (D 8))), (b5, .inl (cI, 31, .inl (D 9))), (b6, .inl (cI, 31, .inl (D 10)))] H_3 := hP1
  have hD : va_D A [(mo, .inr (3, [.int th, .ref rr, .ref si, .ref nb, .ref ak, .ref ha])), (rr, .inl (cR, 7, .inr (.inr (.inr (.inr (RW [b0, b1, b2, b3, b4, b5, b6])))))), (si, .inl (cI, 7, .inl (upd (D 0) 1 (nI (L1.length + 1))))), (nb, .inl (cI, 6, .inl (D 1))), (ak, .inl (cI, 30, .inl (D 2))), (ha, .inl (cI, 30, .inl (D 3))), (b0, .inl (cI, 31, .inl (D 4))), (b1, .inl (cI, 31, .inl (upd (va_cpy (D 5) (D 5) 0 1 L1.length) 0 jar))), (b2, .inl (cI, 31, .inl (D 6))), (b3, .inl (cI, 31, .inl (D 7))), (b4, .inl (cI, 31, .inl (D 8))), (b5, .inl (cI, 31, .inl (D 9))), (b6, .inl (cI, 31, .inl (D 10)))] := hD1
  have hS := hS1
  clear hP1 hD1 hS1
  have hP9 := hP.sub (ws' := [(mo, .inr (3, [.int th, .ref rr, .ref si, .ref nb, .ref ak, .ref ha])), (rr, .inl (cR, 7, .inr (.inr (.inr (.inr (RW [b0, b1, b2, b3, b4, b5, b6])))))), (si, .inl (cI, 7, .inl (upd (D 0) 1 (nI (L1.length + 1))))), (nb, .inl (cI, 6, .inl (D 1))), (ak, .inl (cI, 30, .inl (D 2))), (ha, .inl (cI, 30, .inl (D 3))), (b0, .inl (cI, 31, .inl (D 4))), (b1, .inl (cI, 31, .inl (upd (va_cpy (D 5) (D 5) 0 1 L1.length) 0 jar))), (b2, .inl (cI, 31, .inl (D 6))), (b3, .inl (cI, 31, .inl (D 7))), (b4, .inl (cI, 31, .inl (D 8))), (b5, .inl (cI, 31, .inl (D 9))), (b6, .inl (cI, 31, .inl (D 10)))]) [0, 1, 2, 3, 4, 5, 6, 7, 8, 9, 10, 11, 12] rfl
  have hD9 := hD.sub (ws' := [(mo, .inr (3, [.int th, .ref rr, .ref si, .ref nb, .ref ak, .ref ha])), (rr, .inl (cR, 7, .inr (.inr (.inr (.inr (RW [b0, b1, b2, b3, b4, b5, b6])))))), (si, .inl (cI, 7, .inl (upd (D 0) 1 (nI (L1.length + 1))))), (nb, .inl (cI, 6, .inl (D 1))), (ak, .inl (cI, 30, .inl (D 2))), (ha, .inl (cI, 30, .inl (D 3))), (b0, .inl (cI, 31, .inl (D 4))), (b1, .inl (cI, 31, .inl (upd (va_cpy (D 5) (D 5) 0 1 L1.length) 0 jar))), (b2, .inl (cI, 31, .inl (D 6))), (b3, .inl (cI, 31, .inl (D 7))), (b4, .inl (cI, 31, .inl (D 8))), (b5, .inl (cI, 31, .inl (D 9))), (b6, .inl (cI, 31, .inl (D 10)))]) [0, 1, 2, 3, 4, 5, 6, 7, 8, 9, 10, 11, 12] (by decide) rfl
  exact W.vret hx hb hr (fun t ht hW => ⟨⟨(), rfl, trivial, (dat (upd (D 0) 1 (nI (L1.length + 1))) (D 1) (D 2) (D 3) (D 4) (upd (va_cpy (D 5) (D 5) 0 1 L1.length) 0 jar) (D 6) (D 7) (D 8) (D 9) (D 10)), ⟨(Rw_cons jar hM.1), hM.2.1, hM.2.2.1, hM.2.2.2.1, hM.2.2.2.2.1, hM.2.2.2.2.2.1, rfl, hM.2.2.2.2.2.2.2.1, hM.2.2.2.2.2.2.2.2.1, hM.2.2.2.2.2.2.2.2.2.1, hM.2.2.2.2.2.2.2.2.2.2.1, hM.2.2.2.2.2.2.2.2.2.2.2.1, hM.2.2.2.2.2.2.2.2.2.2.2.2.1, hM.2.2.2.2.2.2.2.2.2.2.2.2.2.1, hM.2.2.2.2.2.2.2.2.2.2.2.2.2.2.1, hM.2.2.2.2.2.2.2.2.2.2.2.2.2.2.2.1, hM.2.2.2.2.2.2.2.2.2.2.2.2.2.2.2.2.1, hM.2.2.2.2.2.2.2.2.2.2.2.2.2.2.2.2.2.1, hM.2.2.2.2.2.2.2.2.2.2.2.2.2.2.2.2.2.2.1, hM.2.2.2.2.2.2.2.2.2.2.2.2.2.2.2.2.2.2.2⟩, g_at hP9 hK hD9 ht hW⟩, hS.F ht⟩) hS.2.2 dX3_toFront_42

set_option maxRecDepth 20000 in
theorem iX3_takeOut_X3 : ∀ w ∈ wsX30, w ∈ wsX3_takeOut := by decide +kernel
set_option maxHeartbeats 4000000 in
set_option maxRecDepth 100000 in
theorem c_X3_takeOut_1 (l : Launch) (G : va_G) (cI cR : ClassId) (mo rr si nb ak ha b0 b1 b2 b3 b4 b5 b6 : Nat) (th : Int32) (D : Nat → Nat → Int32) (L1 L2 L3 L4 P M : List Int32) (rc bo : Nat) (nA nH nP nM : Int32) (KA TA : Nat → Int32) (hM : MOK D rc M ((L1, L2, L3, L4), P, bo, nA, nH, nP, nM, KA, TA)) (pl : Nat) (hp : pl < L1.length) (h30 : L1.length ≤ 30) (sz : Nat) : Met l yX3_takeOut wsX3_takeOut ({ frames := 1, cells := 0, slots := 0, locals := 18 }) (va_Pc [.ref mo, .int (nI 1), .int (nI pl)] (gpre G [(cI, .int), (cR, .array .int)] [(mo, .inr (3, [.int th, .ref rr, .ref si, .ref nb, .ref ak, .ref ha])), (rr, .inl (cR, 7, .inr (.inr (.inr (.inr (RW [b0, b1, b2, b3, b4, b5, b6])))))), (si, .inl (cI, 7, .inl (D 0))), (nb, .inl (cI, 6, .inl (D 1))), (ak, .inl (cI, 30, .inl (D 2))), (ha, .inl (cI, 30, .inl (D 3))), (b0, .inl (cI, 31, .inl (D 4))), (b1, .inl (cI, 31, .inl (D 5))), (b2, .inl (cI, 31, .inl (D 6))), (b3, .inl (cI, 31, .inl (D 7))), (b4, .inl (cI, 31, .inl (D 8))), (b5, .inl (cI, 31, .inl (D 9))), (b6, .inl (cI, 31, .inl (D 10)))] sz)) (va_Qv (fun (_ : Unit) => True) (fun (_ : Unit) t => ∃ D' : Nat → Nat → Int32, MOK D' rc M (((L1.eraseIdx pl), L2, L3, L4), P, bo, nA, nH, nP, nM, KA, TA) ∧ gat G [(cI, .int), (cR, .array .int)] (va_A [(mo, .inr (3, [.int th, .ref rr, .ref si, .ref nb, .ref ak, .ref ha])), (rr, .inl (cR, 7, .inr (.inr (.inr (.inr (RW [b0, b1, b2, b3, b4, b5, b6])))))), (si, .inl (cI, 7, .inl (D 0))), (nb, .inl (cI, 6, .inl (D 1))), (ak, .inl (cI, 30, .inl (D 2))), (ha, .inl (cI, 30, .inl (D 3))), (b0, .inl (cI, 31, .inl (D 4))), (b1, .inl (cI, 31, .inl (D 5))), (b2, .inl (cI, 31, .inl (D 6))), (b3, .inl (cI, 31, .inl (D 7))), (b4, .inl (cI, 31, .inl (D 8))), (b5, .inl (cI, 31, .inl (D 9))), (b6, .inl (cI, 31, .inl (D 10)))] sz) [(mo, .inr (3, [.int th, .ref rr, .ref si, .ref nb, .ref ak, .ref ha])), (rr, .inl (cR, 7, .inr (.inr (.inr (.inr (RW [b0, b1, b2, b3, b4, b5, b6])))))), (si, .inl (cI, 7, .inl (D' 0))), (nb, .inl (cI, 6, .inl (D' 1))), (ak, .inl (cI, 30, .inl (D' 2))), (ha, .inl (cI, 30, .inl (D' 3))), (b0, .inl (cI, 31, .inl (D' 4))), (b1, .inl (cI, 31, .inl (D' 5))), (b2, .inl (cI, 31, .inl (D' 6))), (b3, .inl (cI, 31, .inl (D' 7))), (b4, .inl (cI, 31, .inl (D' 8))), (b5, .inl (cI, 31, .inl (D' 9))), (b6, .inl (cI, 31, .inl (D' 10)))] t) (va_A [(mo, .inr (3, [.int th, .ref rr, .ref si, .ref nb, .ref ak, .ref ha])), (rr, .inl (cR, 7, .inr (.inr (.inr (.inr (RW [b0, b1, b2, b3, b4, b5, b6])))))), (si, .inl (cI, 7, .inl (D 0))), (nb, .inl (cI, 6, .inl (D 1))), (ak, .inl (cI, 30, .inl (D 2))), (ha, .inl (cI, 30, .inl (D 3))), (b0, .inl (cI, 31, .inl (D 4))), (b1, .inl (cI, 31, .inl (D 5))), (b2, .inl (cI, 31, .inl (D 6))), (b3, .inl (cI, 31, .inl (D 7))), (b4, .inl (cI, 31, .inl (D 8))), (b5, .inl (cI, 31, .inl (D 9))), (b6, .inl (cI, 31, .inl (D 10)))] sz)) 0 0 (va_A [(mo, .inr (3, [.int th, .ref rr, .ref si, .ref nb, .ref ak, .ref ha])), (rr, .inl (cR, 7, .inr (.inr (.inr (.inr (RW [b0, b1, b2, b3, b4, b5, b6])))))), (si, .inl (cI, 7, .inl (D 0))), (nb, .inl (cI, 6, .inl (D 1))), (ak, .inl (cI, 30, .inl (D 2))), (ha, .inl (cI, 30, .inl (D 3))), (b0, .inl (cI, 31, .inl (D 4))), (b1, .inl (cI, 31, .inl (D 5))), (b2, .inl (cI, 31, .inl (D 6))), (b3, .inl (cI, 31, .inl (D 7))), (b4, .inl (cI, 31, .inl (D 8))), (b5, .inl (cI, 31, .inl (D 9))), (b6, .inl (cI, 31, .inl (D 10)))] sz) := by
  refine Met.ofW (cc := cX3_takeOut) (maxL := 3) (ret := none) (by decide) rfl ?_
  intro p e s m args below meth c s₁ B hml hv
  obtain ⟨rfl, hsz, hP, hK, hD0⟩ := hv
  have hx := B.exec
  have hb := B.bytes
  have hr := B.returns
  have hts := atoms_spec (ws := wsX3_takeOut) B.pre
  have hown : s.vm.findClass RX3 = some m.cls := findClass_of_methodNamed B.named
  have hlocks := B.notSynchronized
  subst hsz
  have hD := hD0.self (sz := s.heap.size)
  clear hD0
  generalize hAe : va_A [(mo, .inr (3, [.int th, .ref rr, .ref si, .ref nb, .ref ak, .ref ha])), (rr, .inl (cR, 7, .inr (.inr (.inr (.inr (RW [b0, b1, b2, b3, b4, b5, b6])))))), (si, .inl (cI, 7, .inl (D 0))), (nb, .inl (cI, 6, .inl (D 1))), (ak, .inl (cI, 30, .inl (D 2))), (ha, .inl (cI, 30, .inl (D 3))), (b0, .inl (cI, 31, .inl (D 4))), (b1, .inl (cI, 31, .inl (D 5))), (b2, .inl (cI, 31, .inl (D 6))), (b3, .inl (cI, 31, .inl (D 7))), (b4, .inl (cI, 31, .inl (D 8))), (b5, .inl (cI, 31, .inl (D 9))), (b6, .inl (cI, 31, .inl (D 10)))] s.heap.size = A at hD ⊢
  have hA : ∀ q : Nat, s.heap.size ≤ q → A q := fun q h => by rw [← hAe]; exact Or.inr h
  have hS : va_S A s.heap s.heap [] := va_S.rf
  have hP : va_P G vwCl [(mo, .inr (3, [.int th, .ref rr, .ref si, .ref nb, .ref ak, .ref ha])), (rr, .inl (cR, 7, .inr (.inr (.inr (.inr (RW [b0, b1, b2, b3, b4, b5, b6])))))), (si, .inl (cI, 7, .inl (D 0))), (nb, .inl (cI, 6, .inl (D 1))), (ak, .inl (cI, 30, .inl (D 2))), (ha, .inl (cI, 30, .inl (D 3))), (b0, .inl (cI, 31, .inl (D 4))), (b1, .inl (cI, 31, .inl (D 5))), (b2, .inl (cI, 31, .inl (D 6))), (b3, .inl (cI, 31, .inl (D 7))), (b4, .inl (cI, 31, .inl (D 8))), (b5, .inl (cI, 31, .inl (D 9))), (b6, .inl (cI, 31, .inl (D 10)))] s.heap := hP
  have hl := lv_entry ([.ref mo, .int (nI 1), .int (nI pl)]) (n := 3) (Nat.le_of_ble_eq_true rfl)
  rw [lg_entry_eq]
  generalize (lg_sl ([.ref mo, .int (nI 1), .int (nI pl)]) ++ List.replicate (3 - (lg_sl ([.ref mo, .int (nI 1), .int (nI pl)])).length) Slot.unset).toArray = ls at hl ⊢
  have hl : lv_has ls 3 [(0, .ref mo), (1, .int (nI 1)), (2, .int (nI pl))] := hl
  refine lv_aload_n hx hb dX3_takeOut_0 rfl (lv_at hl 0 rfl) ?_
  refine va_get (D := G) (ci := 3) (v := .ref si) (C := RX3) (T := TX3) (N := 6) hx hb hts iX3_takeOut_X3 hown hK hP 0 rfl rfl 2 (by decide) (hts (.fieldLink RX3 14 "GhostPantryModel" "sizes" "[I") (by decide +kernel)) (fun _ h9 => h9) rfl dX3_takeOut_1 ?_
  refine lv_iload_n hx hb dX3_takeOut_4 rfl (lv_at hl 1 rfl) ?_
  refine lv_dup2_11 hx hb dX3_takeOut_5 rfl rfl ?_
  refine g_iald hx hb hK hP 2 0 rfl rfl (i := 1) (by decide) (by decide) dX3_takeOut_6 (v := (nI L1.length)) (hM.2.2.2.2.2.2.1) ?_
  refine lv_iconst (v := (nI 1)) hx hb dX3_takeOut_7 (by decide +kernel) ?_
  refine g_isub hx hb dX3_takeOut_8 (by omega) ?_
  refine g_iast hx hb hK hP hD hS 2 0 rfl rfl (i := 1) (x := (nI (L1.length - 1))) (by decide) (by decide) dX3_takeOut_9 (fun H_1 locs hP1 hD1 hS1 => ?_)
  clear hP hD hS
  have hP : va_P G vwCl [(mo, .inr (3, [.int th, .ref rr, .ref si, .ref nb, .ref ak, .ref ha])), (rr, .inl (cR, 7, .inr (.inr (.inr (.inr (RW [b0, b1, b2, b3, b4, b5, b6])))))), (si, .inl (cI, 7, .inl (upd (D 0) 1 (nI (L1.length - 1))))), (nb, .inl (cI, 6, .inl (D 1))), (ak, .inl (cI, 30, .inl (D 2))), (ha, .inl (cI, 30, .inl (D 3))), (b0, .inl (cI, 31, .inl (D 4))), (b1, .inl (cI, 31, .inl (D 5))), (b2, .inl (cI, 31, .inl (D 6))), (b3, .inl (cI, 31, .inl (D 7))), (b4, .inl (cI, 31, .inl (D 8))), (b5, .inl (cI, 31, .inl (D 9))), (b6, .inl (cI, 31, .inl (D 10)))] H_1 := hP1
  have hD : va_D A [(mo, .inr (3, [.int th, .ref rr, .ref si, .ref nb, .ref ak, .ref ha])), (rr, .inl (cR, 7, .inr (.inr (.inr (.inr (RW [b0, b1, b2, b3, b4, b5, b6])))))), (si, .inl (cI, 7, .inl (upd (D 0) 1 (nI (L1.length - 1))))), (nb, .inl (cI, 6, .inl (D 1))), (ak, .inl (cI, 30, .inl (D 2))), (ha, .inl (cI, 30, .inl (D 3))), (b0, .inl (cI, 31, .inl (D 4))), (b1, .inl (cI, 31, .inl (D 5))), (b2, .inl (cI, 31, .inl (D 6))), (b3, .inl (cI, 31, .inl (D 7))), (b4, .inl (cI, 31, .inl (D 8))), (b5, .inl (cI, 31, .inl (D 9))), (b6, .inl (cI, 31, .inl (D 10)))] := hD1
  have hS := hS1
  clear hP1 hD1 hS1
  refine lv_aload_n hx hb dX3_takeOut_10 rfl (lv_at hl 0 rfl) ?_
  refine va_get (D := G) (ci := 3) (v := .ref rr) (C := RX3) (T := TX3) (N := 6) hx hb hts iX3_takeOut_X3 hown hK hP 0 rfl rfl 1 (by decide) (hts (.fieldLink RX3 11 "GhostPantryModel" "rows" "[[I") (by decide +kernel)) (fun _ h9 => h9) rfl dX3_takeOut_11 ?_
  refine lv_iload_n hx hb dX3_takeOut_14 rfl (lv_at hl 1 rfl) ?_
  refine g_aald hx hb hK hP 1 1 rfl rfl (i := 1) (by decide) (by decide) dX3_takeOut_15 (b := b1) (rfl) ?_
  refine lv_iload_n hx hb dX3_takeOut_16 rfl (lv_at hl 2 rfl) ?_
  refine lv_iconst (v := (nI 1)) hx hb dX3_takeOut_17 (by decide +kernel) ?_
  refine g_iadd hx hb dX3_takeOut_18 ?_
  refine lv_aload_n hx hb dX3_takeOut_19 rfl (lv_at hl 0 rfl) ?_
  refine va_get (D := G) (ci := 3) (v := .ref rr) (C := RX3) (T := TX3) (N := 6) hx hb hts iX3_takeOut_X3 hown hK hP 0 rfl rfl 1 (by decide) (hts (.fieldLink RX3 11 "GhostPantryModel" "rows" "[[I") (by decide +kernel)) (fun _ h9 => h9) rfl dX3_takeOut_20 ?_
  refine lv_iload_n hx hb dX3_takeOut_23 rfl (lv_at hl 1 rfl) ?_
  refine g_aald hx hb hK hP 1 1 rfl rfl (i := 1) (by decide) (by decide) dX3_takeOut_24 (b := b1) (rfl) ?_
  refine lv_iload_n hx hb dX3_takeOut_25 rfl (lv_at hl 2 rfl) ?_
  refine lv_aload_n hx hb dX3_takeOut_26 rfl (lv_at hl 0 rfl) ?_
  refine va_get (D := G) (ci := 3) (v := .ref si) (C := RX3) (T := TX3) (N := 6) hx hb hts iX3_takeOut_X3 hown hK hP 0 rfl rfl 2 (by decide) (hts (.fieldLink RX3 14 "GhostPantryModel" "sizes" "[I") (by decide +kernel)) (fun _ h9 => h9) rfl dX3_takeOut_27 ?_
  refine lv_iload_n hx hb dX3_takeOut_30 rfl (lv_at hl 1 rfl) ?_
  refine g_iald hx hb hK hP 2 0 rfl rfl (i := 1) (by decide) (by decide) dX3_takeOut_31 (v := (nI (L1.length - 1))) (rfl) ?_
  refine lv_iload_n hx hb dX3_takeOut_32 rfl (lv_at hl 2 rfl) ?_
  refine g_isub hx hb dX3_takeOut_33 (by omega) ?_
  refine g_copyi hx hb (hml.trans hl.1.symm) hown (hts (.methodLink RX3 39 arraycopyName) (by decide +kernel)) (hts (.native arraycopyName) (by decide +kernel)) (hts (.static arraycopyName) (by decide +kernel)) (hts (.initialized "java/lang/System") (by decide +kernel)) hK hP hD hS 7 7 0 rfl rfl rfl (sp := (pl + 1)) (dp := pl) (n := ((L1.length - 1) - pl)) (by omega) (by omega) (by omega) (by omega) (by omega) (Nat.le_of_ble_eq_true rfl) (Nat.le_of_ble_eq_true rfl) dX3_takeOut_34 (fun H_2 locs hP1 hD1 hS1 => ?_)
  clear hP hD hS
  have hP : va_P G vwCl [(mo, .inr (3, [.int th, .ref rr, .ref si, .ref nb, .ref ak, .ref ha])), (rr, .inl (cR, 7, .inr (.inr (.inr (.inr (RW [b0, b1, b2, b3, b4, b5, b6])))))), (si, .inl (cI, 7, .inl (upd (D 0) 1 (nI (L1.length - 1))))), (nb, .inl (cI, 6, .inl (D 1))), (ak, .inl (cI, 30, .inl (D 2))), (ha, .inl (cI, 30, .inl (D 3))), (b0, .inl (cI, 31, .inl (D 4))), (b1, .inl (cI, 31, .inl (va_cpy (D 5) (D 5) (pl + 1) pl ((L1.length - 1) - pl)))), (b2, .inl (cI, 31, .inl (D 6))), (b3, .inl (cI, 31, .inl (D 7))), (b4, .inl (cI, 31, .inl (D 8))), (b5, .inl (cI, 31, .inl (D 9))), (b6, .inl (cI, 31, .inl (D 10)))] H_2 := hP1
  have hD : va_D A [(mo, .inr (3, [.int th, .ref rr, .ref si, .ref nb, .ref ak, .ref ha])), (rr, .inl (cR, 7, .inr (.inr (.inr (.inr (RW [b0, b1, b2, b3, b4, b5, b6])))))), (si, .inl (cI, 7, .inl (upd (D 0) 1 (nI (L1.length - 1))))), (nb, .inl (cI, 6, .inl (D 1))), (ak, .inl (cI, 30, .inl (D 2))), (ha, .inl (cI, 30, .inl (D 3))), (b0, .inl (cI, 31, .inl (D 4))), (b1, .inl (cI, 31, .inl (va_cpy (D 5) (D 5) (pl + 1) pl ((L1.length - 1) - pl)))), (b2, .inl (cI, 31, .inl (D 6))), (b3, .inl (cI, 31, .inl (D 7))), (b4, .inl (cI, 31, .inl (D 8))), (b5, .inl (cI, 31, .inl (D 9))), (b6, .inl (cI, 31, .inl (D 10)))] := hD1
  have hS := hS1
  clear hP1 hD1 hS1
  have hP9 := hP.sub (ws' := [(mo, .inr (3, [.int th, .ref rr, .ref si, .ref nb, .ref ak, .ref ha])), (rr, .inl (cR, 7, .inr (.inr (.inr (.inr (RW [b0, b1, b2, b3, b4, b5, b6])))))), (si, .inl (cI, 7, .inl (upd (D 0) 1 (nI (L1.length - 1))))), (nb, .inl (cI, 6, .inl (D 1))), (ak, .inl (cI, 30, .inl (D 2))), (ha, .inl (cI, 30, .inl (D 3))), (b0, .inl (cI, 31, .inl (D 4))), (b1, .inl (cI, 31, .inl (va_cpy (D 5) (D 5) (pl + 1) pl ((L1.length - 1) - pl)))), (b2, .inl (cI, 31, .inl (D 6))), (b3, .inl (cI, 31, .inl (D 7))), (b4, .inl (cI, 31, .inl (D 8))), (b5, .inl (cI, 31, .inl (D 9))), (b6, .inl (cI, 31, .inl (D 10)))]) [0, 1, 2, 3, 4, 5, 6, 7, 8, 9, 10, 11, 12] rfl
  have hD9 := hD.sub (ws' := [(mo, .inr (3, [.int th, .ref rr, .ref si, .ref nb, .ref ak, .ref ha])), (rr, .inl (cR, 7, .inr (.inr (.inr (.inr (RW [b0, b1, b2, b3, b4, b5, b6])))))), (si, .inl (cI, 7, .inl (upd (D 0) 1 (nI (L1.length - 1))))), (nb, .inl (cI, 6, .inl (D 1))), (ak, .inl (cI, 30, .inl (D 2))), (ha, .inl (cI, 30, .inl (D 3))), (b0, .inl (cI, 31, .inl (D 4))), (b1, .inl (cI, 31, .inl (va_cpy (D 5) (D 5) (pl + 1) pl ((L1.length - 1) - pl)))), (b2, .inl (cI, 31, .inl (D 6))), (b3, .inl (cI, 31, .inl (D 7))), (b4, .inl (cI, 31, .inl (D 8))), (b5, .inl (cI, 31, .inl (D 9))), (b6, .inl (cI, 31, .inl (D 10)))]) [0, 1, 2, 3, 4, 5, 6, 7, 8, 9, 10, 11, 12] (by decide) rfl
  exact W.vret hx hb hr (fun t ht hW => ⟨⟨(), rfl, trivial, (dat (upd (D 0) 1 (nI (L1.length - 1))) (D 1) (D 2) (D 3) (D 4) (va_cpy (D 5) (D 5) (pl + 1) pl ((L1.length - 1) - pl)) (D 6) (D 7) (D 8) (D 9) (D 10)), ⟨(Rw_erase2 hM.1 hp), hM.2.1, hM.2.2.1, hM.2.2.2.1, hM.2.2.2.2.1, hM.2.2.2.2.2.1, (congrArg nI (List.length_eraseIdx_of_lt hp).symm), hM.2.2.2.2.2.2.2.1, hM.2.2.2.2.2.2.2.2.1, hM.2.2.2.2.2.2.2.2.2.1, hM.2.2.2.2.2.2.2.2.2.2.1, hM.2.2.2.2.2.2.2.2.2.2.2.1, hM.2.2.2.2.2.2.2.2.2.2.2.2.1, hM.2.2.2.2.2.2.2.2.2.2.2.2.2.1, hM.2.2.2.2.2.2.2.2.2.2.2.2.2.2.1, hM.2.2.2.2.2.2.2.2.2.2.2.2.2.2.2.1, hM.2.2.2.2.2.2.2.2.2.2.2.2.2.2.2.2.1, hM.2.2.2.2.2.2.2.2.2.2.2.2.2.2.2.2.2.1, hM.2.2.2.2.2.2.2.2.2.2.2.2.2.2.2.2.2.2.1, hM.2.2.2.2.2.2.2.2.2.2.2.2.2.2.2.2.2.2.2⟩, g_at hP9 hK hD9 ht hW⟩, hS.F ht⟩) hS.2.2 dX3_takeOut_37

set_option maxRecDepth 20000 in
theorem iX3_last_X3 : ∀ w ∈ wsX30, w ∈ wsX3_last := by decide +kernel
set_option maxHeartbeats 4000000 in
set_option maxRecDepth 100000 in
theorem c_X3_last_1 (l : Launch) (G : va_G) (cI cR : ClassId) (mo rr si nb ak ha b0 b1 b2 b3 b4 b5 b6 : Nat) (th : Int32) (D : Nat → Nat → Int32) (L1 L2 L3 L4 P M : List Int32) (rc bo : Nat) (nA nH nP nM : Int32) (KA TA : Nat → Int32) (hM : MOK D rc M ((L1, L2, L3, L4), P, bo, nA, nH, nP, nM, KA, TA)) (h0 : 0 < L1.length) (h30 : L1.length ≤ 30) (sz : Nat) : Met l yX3_last wsX3_last ({ frames := 0, cells := 0, slots := 0, locals := 0 }) (va_Pc [.ref mo, .int (nI 1)] (gpre G [(cI, .int), (cR, .array .int)] [(mo, .inr (3, [.int th, .ref rr, .ref si, .ref nb, .ref ak, .ref ha])), (rr, .inl (cR, 7, .inr (.inr (.inr (.inr (RW [b0, b1, b2, b3, b4, b5, b6])))))), (si, .inl (cI, 7, .inl (D 0))), (nb, .inl (cI, 6, .inl (D 1))), (ak, .inl (cI, 30, .inl (D 2))), (ha, .inl (cI, 30, .inl (D 3))), (b0, .inl (cI, 31, .inl (D 4))), (b1, .inl (cI, 31, .inl (D 5))), (b2, .inl (cI, 31, .inl (D 6))), (b3, .inl (cI, 31, .inl (D 7))), (b4, .inl (cI, 31, .inl (D 8))), (b5, .inl (cI, 31, .inl (D 9))), (b6, .inl (cI, 31, .inl (D 10)))] sz)) (va_Qi (fun (z : Int32) (_ : Unit) => z = lst L1) (fun (_ : Unit) t => ∃ D' : Nat → Nat → Int32, MOK D' rc M ((L1.dropLast, L2, L3, L4), P, bo, nA, nH, nP, nM, KA, TA) ∧ gat G [(cI, .int), (cR, .array .int)] (va_A [(mo, .inr (3, [.int th, .ref rr, .ref si, .ref nb, .ref ak, .ref ha])), (rr, .inl (cR, 7, .inr (.inr (.inr (.inr (RW [b0, b1, b2, b3, b4, b5, b6])))))), (si, .inl (cI, 7, .inl (D 0))), (nb, .inl (cI, 6, .inl (D 1))), (ak, .inl (cI, 30, .inl (D 2))), (ha, .inl (cI, 30, .inl (D 3))), (b0, .inl (cI, 31, .inl (D 4))), (b1, .inl (cI, 31, .inl (D 5))), (b2, .inl (cI, 31, .inl (D 6))), (b3, .inl (cI, 31, .inl (D 7))), (b4, .inl (cI, 31, .inl (D 8))), (b5, .inl (cI, 31, .inl (D 9))), (b6, .inl (cI, 31, .inl (D 10)))] sz) [(mo, .inr (3, [.int th, .ref rr, .ref si, .ref nb, .ref ak, .ref ha])), (rr, .inl (cR, 7, .inr (.inr (.inr (.inr (RW [b0, b1, b2, b3, b4, b5, b6])))))), (si, .inl (cI, 7, .inl (D' 0))), (nb, .inl (cI, 6, .inl (D' 1))), (ak, .inl (cI, 30, .inl (D' 2))), (ha, .inl (cI, 30, .inl (D' 3))), (b0, .inl (cI, 31, .inl (D' 4))), (b1, .inl (cI, 31, .inl (D' 5))), (b2, .inl (cI, 31, .inl (D' 6))), (b3, .inl (cI, 31, .inl (D' 7))), (b4, .inl (cI, 31, .inl (D' 8))), (b5, .inl (cI, 31, .inl (D' 9))), (b6, .inl (cI, 31, .inl (D' 10)))] t) (va_A [(mo, .inr (3, [.int th, .ref rr, .ref si, .ref nb, .ref ak, .ref ha])), (rr, .inl (cR, 7, .inr (.inr (.inr (.inr (RW [b0, b1, b2, b3, b4, b5, b6])))))), (si, .inl (cI, 7, .inl (D 0))), (nb, .inl (cI, 6, .inl (D 1))), (ak, .inl (cI, 30, .inl (D 2))), (ha, .inl (cI, 30, .inl (D 3))), (b0, .inl (cI, 31, .inl (D 4))), (b1, .inl (cI, 31, .inl (D 5))), (b2, .inl (cI, 31, .inl (D 6))), (b3, .inl (cI, 31, .inl (D 7))), (b4, .inl (cI, 31, .inl (D 8))), (b5, .inl (cI, 31, .inl (D 9))), (b6, .inl (cI, 31, .inl (D 10)))] sz)) 0 0 (va_A [(mo, .inr (3, [.int th, .ref rr, .ref si, .ref nb, .ref ak, .ref ha])), (rr, .inl (cR, 7, .inr (.inr (.inr (.inr (RW [b0, b1, b2, b3, b4, b5, b6])))))), (si, .inl (cI, 7, .inl (D 0))), (nb, .inl (cI, 6, .inl (D 1))), (ak, .inl (cI, 30, .inl (D 2))), (ha, .inl (cI, 30, .inl (D 3))), (b0, .inl (cI, 31, .inl (D 4))), (b1, .inl (cI, 31, .inl (D 5))), (b2, .inl (cI, 31, .inl (D 6))), (b3, .inl (cI, 31, .inl (D 7))), (b4, .inl (cI, 31, .inl (D 8))), (b5, .inl (cI, 31, .inl (D 9))), (b6, .inl (cI, 31, .inl (D 10)))] sz) := by
  refine Met.ofW (cc := cX3_last) (maxL := 2) (ret := (some .int)) (by decide) rfl ?_
  intro p e s m args below meth c s₁ B hml hv
  obtain ⟨rfl, hsz, hP, hK, hD0⟩ := hv
  have hx := B.exec
  have hb := B.bytes
  have hr := B.returns
  have hts := atoms_spec (ws := wsX3_last) B.pre
  have hown : s.vm.findClass RX3 = some m.cls := findClass_of_methodNamed B.named
  have hlocks := B.notSynchronized
  subst hsz
  have hD := hD0.self (sz := s.heap.size)
  clear hD0
  generalize hAe : va_A [(mo, .inr (3, [.int th, .ref rr, .ref si, .ref nb, .ref ak, .ref ha])), (rr, .inl (cR, 7, .inr (.inr (.inr (.inr (RW [b0, b1, b2, b3, b4, b5, b6])))))), (si, .inl (cI, 7, .inl (D 0))), (nb, .inl (cI, 6, .inl (D 1))), (ak, .inl (cI, 30, .inl (D 2))), (ha, .inl (cI, 30, .inl (D 3))), (b0, .inl (cI, 31, .inl (D 4))), (b1, .inl (cI, 31, .inl (D 5))), (b2, .inl (cI, 31, .inl (D 6))), (b3, .inl (cI, 31, .inl (D 7))), (b4, .inl (cI, 31, .inl (D 8))), (b5, .inl (cI, 31, .inl (D 9))), (b6, .inl (cI, 31, .inl (D 10)))] s.heap.size = A at hD ⊢
  have hA : ∀ q : Nat, s.heap.size ≤ q → A q := fun q h => by rw [← hAe]; exact Or.inr h
  have hS : va_S A s.heap s.heap [] := va_S.rf
  have hP : va_P G vwCl [(mo, .inr (3, [.int th, .ref rr, .ref si, .ref nb, .ref ak, .ref ha])), (rr, .inl (cR, 7, .inr (.inr (.inr (.inr (RW [b0, b1, b2, b3, b4, b5, b6])))))), (si, .inl (cI, 7, .inl (D 0))), (nb, .inl (cI, 6, .inl (D 1))), (ak, .inl (cI, 30, .inl (D 2))), (ha, .inl (cI, 30, .inl (D 3))), (b0, .inl (cI, 31, .inl (D 4))), (b1, .inl (cI, 31, .inl (D 5))), (b2, .inl (cI, 31, .inl (D 6))), (b3, .inl (cI, 31, .inl (D 7))), (b4, .inl (cI, 31, .inl (D 8))), (b5, .inl (cI, 31, .inl (D 9))), (b6, .inl (cI, 31, .inl (D 10)))] s.heap := hP
  have hl := lv_entry ([.ref mo, .int (nI 1)]) (n := 2) (Nat.le_of_ble_eq_true rfl)
  rw [lg_entry_eq]
  generalize (lg_sl ([.ref mo, .int (nI 1)]) ++ List.replicate (2 - (lg_sl ([.ref mo, .int (nI 1)])).length) Slot.unset).toArray = ls at hl ⊢
  have hl : lv_has ls 2 [(0, .ref mo), (1, .int (nI 1))] := hl
  refine lv_aload_n hx hb dX3_last_0 rfl (lv_at hl 0 rfl) ?_
  refine va_get (D := G) (ci := 3) (v := .ref si) (C := RX3) (T := TX3) (N := 6) hx hb hts iX3_last_X3 hown hK hP 0 rfl rfl 2 (by decide) (hts (.fieldLink RX3 14 "GhostPantryModel" "sizes" "[I") (by decide +kernel)) (fun _ h9 => h9) rfl dX3_last_1 ?_
  refine lv_iload_n hx hb dX3_last_4 rfl (lv_at hl 1 rfl) ?_
  refine lv_dup2_11 hx hb dX3_last_5 rfl rfl ?_
  refine g_iald hx hb hK hP 2 0 rfl rfl (i := 1) (by decide) (by decide) dX3_last_6 (v := (nI L1.length)) (hM.2.2.2.2.2.2.1) ?_
  refine lv_iconst (v := (nI 1)) hx hb dX3_last_7 (by decide +kernel) ?_
  refine g_isub hx hb dX3_last_8 (by omega) ?_
  refine g_iast hx hb hK hP hD hS 2 0 rfl rfl (i := 1) (x := (nI (L1.length - 1))) (by decide) (by decide) dX3_last_9 (fun H_1 locs hP1 hD1 hS1 => ?_)
  clear hP hD hS
  have hP : va_P G vwCl [(mo, .inr (3, [.int th, .ref rr, .ref si, .ref nb, .ref ak, .ref ha])), (rr, .inl (cR, 7, .inr (.inr (.inr (.inr (RW [b0, b1, b2, b3, b4, b5, b6])))))), (si, .inl (cI, 7, .inl (upd (D 0) 1 (nI (L1.length - 1))))), (nb, .inl (cI, 6, .inl (D 1))), (ak, .inl (cI, 30, .inl (D 2))), (ha, .inl (cI, 30, .inl (D 3))), (b0, .inl (cI, 31, .inl (D 4))), (b1, .inl (cI, 31, .inl (D 5))), (b2, .inl (cI, 31, .inl (D 6))), (b3, .inl (cI, 31, .inl (D 7))), (b4, .inl (cI, 31, .inl (D 8))), (b5, .inl (cI, 31, .inl (D 9))), (b6, .inl (cI, 31, .inl (D 10)))] H_1 := hP1
  have hD : va_D A [(mo, .inr (3, [.int th, .ref rr, .ref si, .ref nb, .ref ak, .ref ha])), (rr, .inl (cR, 7, .inr (.inr (.inr (.inr (RW [b0, b1, b2, b3, b4, b5, b6])))))), (si, .inl (cI, 7, .inl (upd (D 0) 1 (nI (L1.length - 1))))), (nb, .inl (cI, 6, .inl (D 1))), (ak, .inl (cI, 30, .inl (D 2))), (ha, .inl (cI, 30, .inl (D 3))), (b0, .inl (cI, 31, .inl (D 4))), (b1, .inl (cI, 31, .inl (D 5))), (b2, .inl (cI, 31, .inl (D 6))), (b3, .inl (cI, 31, .inl (D 7))), (b4, .inl (cI, 31, .inl (D 8))), (b5, .inl (cI, 31, .inl (D 9))), (b6, .inl (cI, 31, .inl (D 10)))] := hD1
  have hS := hS1
  clear hP1 hD1 hS1
  refine lv_aload_n hx hb dX3_last_10 rfl (lv_at hl 0 rfl) ?_
  refine va_get (D := G) (ci := 3) (v := .ref rr) (C := RX3) (T := TX3) (N := 6) hx hb hts iX3_last_X3 hown hK hP 0 rfl rfl 1 (by decide) (hts (.fieldLink RX3 11 "GhostPantryModel" "rows" "[[I") (by decide +kernel)) (fun _ h9 => h9) rfl dX3_last_11 ?_
  refine lv_iload_n hx hb dX3_last_14 rfl (lv_at hl 1 rfl) ?_
  refine g_aald hx hb hK hP 1 1 rfl rfl (i := 1) (by decide) (by decide) dX3_last_15 (b := b1) (rfl) ?_
  refine lv_aload_n hx hb dX3_last_16 rfl (lv_at hl 0 rfl) ?_
  refine va_get (D := G) (ci := 3) (v := .ref si) (C := RX3) (T := TX3) (N := 6) hx hb hts iX3_last_X3 hown hK hP 0 rfl rfl 2 (by decide) (hts (.fieldLink RX3 14 "GhostPantryModel" "sizes" "[I") (by decide +kernel)) (fun _ h9 => h9) rfl dX3_last_17 ?_
  refine lv_iload_n hx hb dX3_last_20 rfl (lv_at hl 1 rfl) ?_
  refine g_iald hx hb hK hP 2 0 rfl rfl (i := 1) (by decide) (by decide) dX3_last_21 (v := (nI (L1.length - 1))) (rfl) ?_
  refine g_iald hx hb hK hP 7 0 rfl rfl (i := (L1.length - 1)) (by omega) (by decide) dX3_last_22 (v := (lst L1)) (Rw_lst hM.1 h0) ?_
  have hP9 := hP.sub (ws' := [(mo, .inr (3, [.int th, .ref rr, .ref si, .ref nb, .ref ak, .ref ha])), (rr, .inl (cR, 7, .inr (.inr (.inr (.inr (RW [b0, b1, b2, b3, b4, b5, b6])))))), (si, .inl (cI, 7, .inl (upd (D 0) 1 (nI (L1.length - 1))))), (nb, .inl (cI, 6, .inl (D 1))), (ak, .inl (cI, 30, .inl (D 2))), (ha, .inl (cI, 30, .inl (D 3))), (b0, .inl (cI, 31, .inl (D 4))), (b1, .inl (cI, 31, .inl (D 5))), (b2, .inl (cI, 31, .inl (D 6))), (b3, .inl (cI, 31, .inl (D 7))), (b4, .inl (cI, 31, .inl (D 8))), (b5, .inl (cI, 31, .inl (D 9))), (b6, .inl (cI, 31, .inl (D 10)))]) [0, 1, 2, 3, 4, 5, 6, 7, 8, 9, 10, 11, 12] rfl
  have hD9 := hD.sub (ws' := [(mo, .inr (3, [.int th, .ref rr, .ref si, .ref nb, .ref ak, .ref ha])), (rr, .inl (cR, 7, .inr (.inr (.inr (.inr (RW [b0, b1, b2, b3, b4, b5, b6])))))), (si, .inl (cI, 7, .inl (upd (D 0) 1 (nI (L1.length - 1))))), (nb, .inl (cI, 6, .inl (D 1))), (ak, .inl (cI, 30, .inl (D 2))), (ha, .inl (cI, 30, .inl (D 3))), (b0, .inl (cI, 31, .inl (D 4))), (b1, .inl (cI, 31, .inl (D 5))), (b2, .inl (cI, 31, .inl (D 6))), (b3, .inl (cI, 31, .inl (D 7))), (b4, .inl (cI, 31, .inl (D 8))), (b5, .inl (cI, 31, .inl (D 9))), (b6, .inl (cI, 31, .inl (D 10)))]) [0, 1, 2, 3, 4, 5, 6, 7, 8, 9, 10, 11, 12] (by decide) rfl
  exact W.iret (v := (lst L1)) hx hb hr (fun t ht hW => ⟨⟨(lst L1), (), rfl, rfl, (dat (upd (D 0) 1 (nI (L1.length - 1))) (D 1) (D 2) (D 3) (D 4) (D 5) (D 6) (D 7) (D 8) (D 9) (D 10)), ⟨(Rw_drop hM.1), hM.2.1, hM.2.2.1, hM.2.2.2.1, hM.2.2.2.2.1, hM.2.2.2.2.2.1, (congrArg nI List.length_dropLast.symm), hM.2.2.2.2.2.2.2.1, hM.2.2.2.2.2.2.2.2.1, hM.2.2.2.2.2.2.2.2.2.1, hM.2.2.2.2.2.2.2.2.2.2.1, hM.2.2.2.2.2.2.2.2.2.2.2.1, hM.2.2.2.2.2.2.2.2.2.2.2.2.1, hM.2.2.2.2.2.2.2.2.2.2.2.2.2.1, hM.2.2.2.2.2.2.2.2.2.2.2.2.2.2.1, hM.2.2.2.2.2.2.2.2.2.2.2.2.2.2.2.1, hM.2.2.2.2.2.2.2.2.2.2.2.2.2.2.2.2.1, hM.2.2.2.2.2.2.2.2.2.2.2.2.2.2.2.2.2.1, hM.2.2.2.2.2.2.2.2.2.2.2.2.2.2.2.2.2.2.1, hM.2.2.2.2.2.2.2.2.2.2.2.2.2.2.2.2.2.2.2⟩, g_at hP9 hK hD9 ht hW⟩, hS.F ht⟩) hS.2.2 dX3_last_23

set_option maxHeartbeats 4000000 in
set_option maxRecDepth 100000 in
theorem c_X3_toFront_2 (l : Launch) (G : va_G) (cI cR : ClassId) (mo rr si nb ak ha b0 b1 b2 b3 b4 b5 b6 : Nat) (th : Int32) (D : Nat → Nat → Int32) (L1 L2 L3 L4 P M : List Int32) (rc bo : Nat) (nA nH nP nM : Int32) (KA TA : Nat → Int32) (hM : MOK D rc M ((L1, L2, L3, L4), P, bo, nA, nH, nP, nM, KA, TA)) (jar : Int32) (h30 : L2.length ≤ 30) (sz : Nat) : Met l yX3_toFront wsX3_toFront ({ frames := 1, cells := 0, slots := 0, locals := 18 }) (va_Pc [.ref mo, .int (nI 2), .int jar] (gpre G [(cI, .int), (cR, .array .int)] [(mo, .inr (3, [.int th, .ref rr, .ref si, .ref nb, .ref ak, .ref ha])), (rr, .inl (cR, 7, .inr (.inr (.inr (.inr (RW [b0, b1, b2, b3, b4, b5, b6])))))), (si, .inl (cI, 7, .inl (D 0))), (nb, .inl (cI, 6, .inl (D 1))), (ak, .inl (cI, 30, .inl (D 2))), (ha, .inl (cI, 30, .inl (D 3))), (b0, .inl (cI, 31, .inl (D 4))), (b1, .inl (cI, 31, .inl (D 5))), (b2, .inl (cI, 31, .inl (D 6))), (b3, .inl (cI, 31, .inl (D 7))), (b4, .inl (cI, 31, .inl (D 8))), (b5, .inl (cI, 31, .inl (D 9))), (b6, .inl (cI, 31, .inl (D 10)))] sz)) (va_Qv (fun (_ : Unit) => True) (fun (_ : Unit) t => ∃ D' : Nat → Nat → Int32, MOK D' rc M ((L1, (jar :: L2), L3, L4), P, bo, nA, nH, nP, nM, KA, TA) ∧ gat G [(cI, .int), (cR, .array .int)] (va_A [(mo, .inr (3, [.int th, .ref rr, .ref si, .ref nb, .ref ak, .ref ha])), (rr, .inl (cR, 7, .inr (.inr (.inr (.inr (RW [b0, b1, b2, b3, b4, b5, b6])))))), (si, .inl (cI, 7, .inl (D 0))), (nb, .inl (cI, 6, .inl (D 1))), (ak, .inl (cI, 30, .inl (D 2))), (ha, .inl (cI, 30, .inl (D 3))), (b0, .inl (cI, 31, .inl (D 4))), (b1, .inl (cI, 31, .inl (D 5))), (b2, .inl (cI, 31, .inl (D 6))), (b3, .inl (cI, 31, .inl (D 7))), (b4, .inl (cI, 31, .inl (D 8))), (b5, .inl (cI, 31, .inl (D 9))), (b6, .inl (cI, 31, .inl (D 10)))] sz) [(mo, .inr (3, [.int th, .ref rr, .ref si, .ref nb, .ref ak, .ref ha])), (rr, .inl (cR, 7, .inr (.inr (.inr (.inr (RW [b0, b1, b2, b3, b4, b5, b6])))))), (si, .inl (cI, 7, .inl (D' 0))), (nb, .inl (cI, 6, .inl (D' 1))), (ak, .inl (cI, 30, .inl (D' 2))), (ha, .inl (cI, 30, .inl (D' 3))), (b0, .inl (cI, 31, .inl (D' 4))), (b1, .inl (cI, 31, .inl (D' 5))), (b2, .inl (cI, 31, .inl (D' 6))), (b3, .inl (cI, 31, .inl (D' 7))), (b4, .inl (cI, 31, .inl (D' 8))), (b5, .inl (cI, 31, .inl (D' 9))), (b6, .inl (cI, 31, .inl (D' 10)))] t) (va_A [(mo, .inr (3, [.int th, .ref rr, .ref si, .ref nb, .ref ak, .ref ha])), (rr, .inl (cR, 7, .inr (.inr (.inr (.inr (RW [b0, b1, b2, b3, b4, b5, b6])))))), (si, .inl (cI, 7, .inl (D 0))), (nb, .inl (cI, 6, .inl (D 1))), (ak, .inl (cI, 30, .inl (D 2))), (ha, .inl (cI, 30, .inl (D 3))), (b0, .inl (cI, 31, .inl (D 4))), (b1, .inl (cI, 31, .inl (D 5))), (b2, .inl (cI, 31, .inl (D 6))), (b3, .inl (cI, 31, .inl (D 7))), (b4, .inl (cI, 31, .inl (D 8))), (b5, .inl (cI, 31, .inl (D 9))), (b6, .inl (cI, 31, .inl (D 10)))] sz)) 0 0 (va_A [(mo, .inr (3, [.int th, .ref rr, .ref si, .ref nb, .ref ak, .ref ha])), (rr, .inl (cR, 7, .inr (.inr (.inr (.inr (RW [b0, b1, b2, b3, b4, b5, b6])))))), (si, .inl (cI, 7, .inl (D 0))), (nb, .inl (cI, 6, .inl (D 1))), (ak, .inl (cI, 30, .inl (D 2))), (ha, .inl (cI, 30, .inl (D 3))), (b0, .inl (cI, 31, .inl (D 4))), (b1, .inl (cI, 31, .inl (D 5))), (b2, .inl (cI, 31, .inl (D 6))), (b3, .inl (cI, 31, .inl (D 7))), (b4, .inl (cI, 31, .inl (D 8))), (b5, .inl (cI, 31, .inl (D 9))), (b6, .inl (cI, 31, .inl (D 10)))] sz) := by
  refine Met.ofW (cc := cX3_toFront) (maxL := 3) (ret := none) (by decide) rfl ?_
  intro p e s m args below meth c s₁ B hml hv
  obtain ⟨rfl, hsz, hP, hK, hD0⟩ := hv
  have hx := B.exec
  have hb := B.bytes
  have hr := B.returns
  have hts := atoms_spec (ws := wsX3_toFront) B.pre
  have hown : s.vm.findClass RX3 = some m.cls := findClass_of_methodNamed B.named
  have hlocks := B.notSynchronized
  subst hsz
  have hD := hD0.self (sz := s.heap.size)
  clear hD0
  generalize hAe : va_A [(mo, .inr (3, [.int th, .ref rr, .ref si, .ref nb, .ref ak, .ref ha])), (rr, .inl (cR, 7, .inr (.inr (.inr (.inr (RW [b0, b1, b2, b3, b4, b5, b6])))))), (si, .inl (cI, 7, .inl (D 0))), (nb, .inl (cI, 6, .inl (D 1))), (ak, .inl (cI, 30, .inl (D 2))), (ha, .inl (cI, 30, .inl (D 3))), (b0, .inl (cI, 31, .inl (D 4))), (b1, .inl (cI, 31, .inl (D 5))), (b2, .inl (cI, 31, .inl (D 6))), (b3, .inl (cI, 31, .inl (D 7))), (b4, .inl (cI, 31, .inl (D 8))), (b5, .inl (cI, 31, .inl (D 9))), (b6, .inl (cI, 31, .inl (D 10)))] s.heap.size = A at hD ⊢
  have hA : ∀ q : Nat, s.heap.size ≤ q → A q := fun q h => by rw [← hAe]; exact Or.inr h
  have hS : va_S A s.heap s.heap [] := va_S.rf
  have hP : va_P G vwCl [(mo, .inr (3, [.int th, .ref rr, .ref si, .ref nb, .ref ak, .ref ha])), (rr, .inl (cR, 7, .inr (.inr (.inr (.inr (RW [b0, b1, b2, b3, b4, b5, b6])))))), (si, .inl (cI, 7, .inl (D 0))), (nb, .inl (cI, 6, .inl (D 1))), (ak, .inl (cI, 30, .inl (D 2))), (ha, .inl (cI, 30, .inl (D 3))), (b0, .inl (cI, 31, .inl (D 4))), (b1, .inl (cI, 31, .inl (D 5))), (b2, .inl (cI, 31, .inl (D 6))), (b3, .inl (cI, 31, .inl (D 7))), (b4, .inl (cI, 31, .inl (D 8))), (b5, .inl (cI, 31, .inl (D 9))), (b6, .inl (cI, 31, .inl (D 10)))] s.heap := hP
  have hl := lv_entry ([.ref mo, .int (nI 2), .int jar]) (n := 3) (Nat.le_of_ble_eq_true rfl)
  rw [lg_entry_eq]
  generalize (lg_sl ([.ref mo, .int (nI 2), .int jar]) ++ List.replicate (3 - (lg_sl ([.ref mo, .int (nI 2), .int jar])).length) Slot.unset).toArray = ls at hl ⊢
  have hl : lv_has ls 3 [(0, .ref mo), (1, .int (nI 2)), (2, .int jar)] := hl
  refine lv_aload_n hx hb dX3_toFront_0 rfl (lv_at hl 0 rfl) ?_
  refine va_get (D := G) (ci := 3) (v := .ref rr) (C := RX3) (T := TX3) (N := 6) hx hb hts iX3_toFront_X3 hown hK hP 0 rfl rfl 1 (by decide) (hts (.fieldLink RX3 11 "GhostPantryModel" "rows" "[[I") (by decide +kernel)) (fun _ h9 => h9) rfl dX3_toFront_1 ?_
  refine lv_iload_n hx hb dX3_toFront_4 rfl (lv_at hl 1 rfl) ?_
  refine g_aald hx hb hK hP 1 1 rfl rfl (i := 2) (by decide) (by decide) dX3_toFront_5 (b := b2) (rfl) ?_
  refine lv_iconst (v := (nI 0)) hx hb dX3_toFront_6 (by decide +kernel) ?_
  refine lv_aload_n hx hb dX3_toFront_7 rfl (lv_at hl 0 rfl) ?_
  refine va_get (D := G) (ci := 3) (v := .ref rr) (C := RX3) (T := TX3) (N := 6) hx hb hts iX3_toFront_X3 hown hK hP 0 rfl rfl 1 (by decide) (hts (.fieldLink RX3 11 "GhostPantryModel" "rows" "[[I") (by decide +kernel)) (fun _ h9 => h9) rfl dX3_toFront_8 ?_
  refine lv_iload_n hx hb dX3_toFront_11 rfl (lv_at hl 1 rfl) ?_
  refine g_aald hx hb hK hP 1 1 rfl rfl (i := 2) (by decide) (by decide) dX3_toFront_12 (b := b2) (rfl) ?_
  refine lv_iconst (v := (nI 1)) hx hb dX3_toFront_13 (by decide +kernel) ?_
  refine lv_aload_n hx hb dX3_toFront_14 rfl (lv_at hl 0 rfl) ?_
  refine va_get (D := G) (ci := 3) (v := .ref si) (C := RX3) (T := TX3) (N := 6) hx hb hts iX3_toFront_X3 hown hK hP 0 rfl rfl 2 (by decide) (hts (.fieldLink RX3 14 "GhostPantryModel" "sizes" "[I") (by decide +kernel)) (fun _ h9 => h9) rfl dX3_toFront_15 ?_
  refine lv_iload_n hx hb dX3_toFront_18 rfl (lv_at hl 1 rfl) ?_
  refine g_iald hx hb hK hP 2 0 rfl rfl (i := 2) (by decide) (by decide) dX3_toFront_19 (v := (nI L2.length)) (hM.2.2.2.2.2.2.2.1) ?_
  refine g_copyi hx hb (hml.trans hl.1.symm) hown (hts (.methodLink RX3 39 arraycopyName) (by decide +kernel)) (hts (.native arraycopyName) (by decide +kernel)) (hts (.static arraycopyName) (by decide +kernel)) (hts (.initialized "java/lang/System") (by decide +kernel)) hK hP hD hS 8 8 0 rfl rfl rfl (sp := 0) (dp := 1) (n := L2.length) (by decide) (by decide) (by omega) (by omega) (by omega) (Nat.le_of_ble_eq_true rfl) (Nat.le_of_ble_eq_true rfl) dX3_toFront_20 (fun H_1 locs hP1 hD1 hS1 => ?_)
  clear hP hD hS
  have hP : va_P G vwCl [(mo, .inr (3, [.int th, .ref rr, .ref si, .ref nb, .ref ak, .ref ha])), (rr, .inl (cR, 7, .inr (.inr (.inr (.inr (RW [b0, b1, b2, b3, b4, b5, b6])))))), (si, .inl (cI, 7, .inl (D 0))), (nb, .inl (cI, 6, .inl (D 1))), (ak, .inl (cI, 30, .inl (D 2))), (ha, .inl (cI, 30, .inl (D 3))), (b0, .inl (cI, 31, .inl (D 4))), (b1, .inl (cI, 31, .inl (D 5))), (b2, .inl (cI, 31, .inl (va_cpy (D 6) (D 6) 0 1 L2.length))), (b3, .inl (cI, 31, .inl (D 7))), (b4, .inl (cI, 31, .inl (D 8))), (b5, .inl (cI, 31, .inl (D 9))), (b6, .inl (cI, 31, .inl (D 10)))] H_1 := hP1
  have hD : va_D A [(mo, .inr (3, [.int th, .ref rr, .ref si, .ref nb, .ref ak, .ref ha])), (rr, .inl (cR, 7, .inr (.inr (.inr (.inr (RW [b0, b1, b2, b3, b4, b5, b6])))))), (si, .inl (cI, 7, .inl (D 0))), (nb, .inl (cI, 6, .inl (D 1))), (ak, .inl (cI, 30, .inl (D 2))), (ha, .inl (cI, 30, .inl (D 3))), (b0, .inl (cI, 31, .inl (D 4))), (b1, .inl (cI, 31, .inl (D 5))), (b2, .inl (cI, 31, .inl (va_cpy (D 6) (D 6) 0 1 L2.length))), (b3, .inl (cI, 31, .inl (D 7))), (b4, .inl (cI, 31, .inl (D 8))), (b5, .inl (cI, 31, .inl (D 9))), (b6, .inl (cI, 31, .inl (D 10)))] := hD1
  have hS := hS1
  clear hP1 hD1 hS1
  refine lv_aload_n hx hb dX3_toFront_23 rfl (lv_at hl 0 rfl) ?_
  refine va_get (D := G) (ci := 3) (v := .ref rr) (C := RX3) (T := TX3) (N := 6) hx hb hts iX3_toFront_X3 hown hK hP 0 rfl rfl 1 (by decide) (hts (.fieldLink RX3 11 "GhostPantryModel" "rows" "[[I") (by decide +kernel)) (fun _ h9 => h9) rfl dX3_toFront_24 ?_
  refine lv_iload_n hx hb dX3_toFront_27 rfl (lv_at hl 1 rfl) ?_
  refine g_aald hx hb hK hP 1 1 rfl rfl (i := 2) (by decide) (by decide) dX3_toFront_28 (b := b2) (rfl) ?_
  refine lv_iconst (v := (nI 0)) hx hb dX3_toFront_29 (by decide +kernel) ?_
  refine lv_iload_n hx hb dX3_toFront_30 rfl (lv_at hl 2 rfl) ?_
  refine g_iast hx hb hK hP hD hS 8 0 rfl rfl (i := 0) (x := jar) (by decide) (by decide) dX3_toFront_31 (fun H_2 locs hP1 hD1 hS1 => ?_)
  clear hP hD hS
  have hP : va_P G vwCl [(mo, .inr (3, [.int th, .ref rr, .ref si, .ref nb, .ref ak, .ref ha])), (rr, .inl (cR, 7, .inr (.inr (.inr (.inr (RW [b0, b1, b2, b3, b4, b5, b6])))))), (si, .inl (cI, 7, .inl (D 0))), (nb, .inl (cI, 6, .inl (D 1))), (ak, .inl (cI, 30, .inl (D 2))), (ha, .inl (cI, 30, .inl (D 3))), (b0, .inl (cI, 31, .inl (D 4))), (b1, .inl (cI, 31, .inl (D 5))), (b2, .inl (cI, 31, .inl (upd (va_cpy (D 6) (D 6) 0 1 L2.length) 0 jar))), (b3, .inl (cI, 31, .inl (D 7))), (b4, .inl (cI, 31, .inl (D 8))), (b5, .inl (cI, 31, .inl (D 9))), (b6, .inl (cI, 31, .inl (D 10)))] H_2 := hP1
  have hD : va_D A [(mo, .inr (3, [.int th, .ref rr, .ref si, .ref nb, .ref ak, .ref ha])), (rr, .inl (cR, 7, .inr (.inr (.inr (.inr (RW [b0, b1, b2, b3, b4, b5, b6])))))), (si, .inl (cI, 7, .inl (D 0))), (nb, .inl (cI, 6, .inl (D 1))), (ak, .inl (cI, 30, .inl (D 2))), (ha, .inl (cI, 30, .inl (D 3))), (b0, .inl (cI, 31, .inl (D 4))), (b1, .inl (cI, 31, .inl (D 5))), (b2, .inl (cI, 31, .inl (upd (va_cpy (D 6) (D 6) 0 1 L2.length) 0 jar))), (b3, .inl (cI, 31, .inl (D 7))), (b4, .inl (cI, 31, .inl (D 8))), (b5, .inl (cI, 31, .inl (D 9))), (b6, .inl (cI, 31, .inl (D 10)))] := hD1
  have hS := hS1
  clear hP1 hD1 hS1
  refine lv_aload_n hx hb dX3_toFront_32 rfl (lv_at hl 0 rfl) ?_
  refine va_get (D := G) (ci := 3) (v := .ref si) (C := RX3) (T := TX3) (N := 6) hx hb hts iX3_toFront_X3 hown hK hP 0 rfl rfl 2 (by decide) (hts (.fieldLink RX3 14 "GhostPantryModel" "sizes" "[I") (by decide +kernel)) (fun _ h9 => h9) rfl dX3_toFront_33 ?_
  refine lv_iload_n hx hb dX3_toFront_36 rfl (lv_at hl 1 rfl) ?_
  refine lv_dup2_11 hx hb dX3_toFront_37 rfl rfl ?_
  refine g_iald hx hb hK hP 2 0 rfl rfl (i := 2) (by decide) (by decide) dX3_toFront_38 (v := (nI L2.length)) (hM.2.2.2.2.2.2.2.1) ?_
  refine lv_iconst (v := (nI 1)) hx hb dX3_toFront_39 (by decide +kernel) ?_
  refine g_iadd hx hb dX3_toFront_40 ?_
  refine g_iast hx hb hK hP hD hS 2 0 rfl rfl (i := 2) (x := (nI (L2.length + 1))) (by decide) (by decide) dX3_toFront_41 (fun H_3 locs hP1 hD1 hS1 => ?_)
  clear hP hD hS
  have hP : va_P G vwCl [(mo, .inr (3, [.int th, .ref rr, .ref si, .ref nb, .ref ak, .ref ha])), (rr, .inl (cR, 7, .inr (.inr (.inr (.inr (RW [b0, b1, b2, b3, b4, b5, b6])))))), (si, .inl (cI, 7, .inl (upd (D 0) 2 (nI (L2.length + 1))))), (nb, .inl (cI, 6, .inl (D 1))), (ak, .inl (cI, 30, .inl (D 2))), (ha, .inl (cI, 30, .inl (D 3))), (b0, .inl (cI, 31, .inl (D 4))), (b1, .inl (cI, 31, .inl (D 5))), (b2, .inl (cI, 31, .inl (upd (va_cpy (D 6) (D 6) 0 1 L2.length) 0 jar))), (b3, .inl (cI, 31, .inl (D 7))), (b4, .inl (cI, 31, .inl (D 8))), (b5, .inl (cI, 31, .inl (D 9))), (b6, .inl (cI, 31, .inl (D 10)))] H_3 := hP1
  have hD : va_D A [(mo, .inr (3, [.int th, .ref rr, .ref si, .ref nb, .ref ak, .ref ha])), (rr, .inl (cR, 7, .inr (.inr (.inr (.inr (RW [b0, b1, b2, b3, b4, b5, b6])))))), (si, .inl (cI, 7, .inl (upd (D 0) 2 (nI (L2.length + 1))))), (nb, .inl (cI, 6, .inl (D 1))), (ak, .inl (cI, 30, .inl (D 2))), (ha, .inl (cI, 30, .inl (D 3))), (b0, .inl (cI, 31, .inl (D 4))), (b1, .inl (cI, 31, .inl (D 5))), (b2, .inl (cI, 31, .inl (upd (va_cpy (D 6) (D 6) 0 1 L2.length) 0 jar))), (b3, .inl (cI, 31, .inl (D 7))), (b4, .inl (cI, 31, .inl (D 8))), (b5, .inl (cI, 31, .inl (D 9))), (b6, .inl (cI, 31, .inl (D 10)))] := hD1
  have hS := hS1
  clear hP1 hD1 hS1
  have hP9 := hP.sub (ws' := [(mo, .inr (3, [.int th, .ref rr, .ref si, .ref nb, .ref ak, .ref ha])), (rr, .inl (cR, 7, .inr (.inr (.inr (.inr (RW [b0, b1, b2, b3, b4, b5, b6])))))), (si, .inl (cI, 7, .inl (upd (D 0) 2 (nI (L2.length + 1))))), (nb, .inl (cI, 6, .inl (D 1))), (ak, .inl (cI, 30, .inl (D 2))), (ha, .inl (cI, 30, .inl (D 3))), (b0, .inl (cI, 31, .inl (D 4))), (b1, .inl (cI, 31, .inl (D 5))), (b2, .inl (cI, 31, .inl (upd (va_cpy (D 6) (D 6) 0 1 L2.length) 0 jar))), (b3, .inl (cI, 31, .inl (D 7))), (b4, .inl (cI, 31, .inl (D 8))), (b5, .inl (cI, 31, .inl (D 9))), (b6, .inl (cI, 31, .inl (D 10)))]) [0, 1, 2, 3, 4, 5, 6, 7, 8, 9, 10, 11, 12] rfl
  have hD9 := hD.sub (ws' := [(mo, .inr (3, [.int th, .ref rr, .ref si, .ref nb, .ref ak, .ref ha])), (rr, .inl (cR, 7, .inr (.inr (.inr (.inr (RW [b0, b1, b2, b3, b4, b5, b6])))))), (si, .inl (cI, 7, .inl (upd (D 0) 2 (nI (L2.length + 1))))), (nb, .inl (cI, 6, .inl (D 1))), (ak, .inl (cI, 30, .inl (D 2))), (ha, .inl (cI, 30, .inl (D 3))), (b0, .inl (cI, 31, .inl (D 4))), (b1, .inl (cI, 31, .inl (D 5))), (b2, .inl (cI, 31, .inl (upd (va_cpy (D 6) (D 6) 0 1 L2.length) 0 jar))), (b3, .inl (cI, 31, .inl (D 7))), (b4, .inl (cI, 31, .inl (D 8))), (b5, .inl (cI, 31, .inl (D 9))), (b6, .inl (cI, 31, .inl (D 10)))]) [0, 1, 2, 3, 4, 5, 6, 7, 8, 9, 10, 11, 12] (by decide) rfl
  exact W.vret hx hb hr (fun t ht hW => ⟨⟨(), rfl, trivial, (dat (upd (D 0) 2 (nI (L2.length + 1))) (D 1) (D 2) (D 3) (D 4) (D 5) (upd (va_cpy (D 6) (D 6) 0 1 L2.length) 0 jar) (D 7) (D 8) (D 9) (D 10)), ⟨hM.1, (Rw_cons jar hM.2.1), hM.2.2.1, hM.2.2.2.1, hM.2.2.2.2.1, hM.2.2.2.2.2.1, hM.2.2.2.2.2.2.1, rfl, hM.2.2.2.2.2.2.2.2.1, hM.2.2.2.2.2.2.2.2.2.1, hM.2.2.2.2.2.2.2.2.2.2.1, hM.2.2.2.2.2.2.2.2.2.2.2.1, hM.2.2.2.2.2.2.2.2.2.2.2.2.1, hM.2.2.2.2.2.2.2.2.2.2.2.2.2.1, hM.2.2.2.2.2.2.2.2.2.2.2.2.2.2.1, hM.2.2.2.2.2.2.2.2.2.2.2.2.2.2.2.1, hM.2.2.2.2.2.2.2.2.2.2.2.2.2.2.2.2.1, hM.2.2.2.2.2.2.2.2.2.2.2.2.2.2.2.2.2.1, hM.2.2.2.2.2.2.2.2.2.2.2.2.2.2.2.2.2.2.1, hM.2.2.2.2.2.2.2.2.2.2.2.2.2.2.2.2.2.2.2⟩, g_at hP9 hK hD9 ht hW⟩, hS.F ht⟩) hS.2.2 dX3_toFront_42

set_option maxHeartbeats 4000000 in
set_option maxRecDepth 100000 in
theorem c_X3_takeOut_2 (l : Launch) (G : va_G) (cI cR : ClassId) (mo rr si nb ak ha b0 b1 b2 b3 b4 b5 b6 : Nat) (th : Int32) (D : Nat → Nat → Int32) (L1 L2 L3 L4 P M : List Int32) (rc bo : Nat) (nA nH nP nM : Int32) (KA TA : Nat → Int32) (hM : MOK D rc M ((L1, L2, L3, L4), P, bo, nA, nH, nP, nM, KA, TA)) (pl : Nat) (hp : pl < L2.length) (h30 : L2.length ≤ 30) (sz : Nat) : Met l yX3_takeOut wsX3_takeOut ({ frames := 1, cells := 0, slots := 0, locals := 18 }) (va_Pc [.ref mo, .int (nI 2), .int (nI pl)] (gpre G [(cI, .int), (cR, .array .int)] [(mo, .inr (3, [.int th, .ref rr, .ref si, .ref nb, .ref ak, .ref ha])), (rr, .inl (cR, 7, .inr (.inr (.inr (.inr (RW [b0, b1, b2, b3, b4, b5, b6])))))), (si, .inl (cI, 7, .inl (D 0))), (nb, .inl (cI, 6, .inl (D 1))), (ak, .inl (cI, 30, .inl (D 2))), (ha, .inl (cI, 30, .inl (D 3))), (b0, .inl (cI, 31, .inl (D 4))), (b1, .inl (cI, 31, .inl (D 5))), (b2, .inl (cI, 31, .inl (D 6))), (b3, .inl (cI, 31, .inl (D 7))), (b4, .inl (cI, 31, .inl (D 8))), (b5, .inl (cI, 31, .inl (D 9))), (b6, .inl (cI, 31, .inl (D 10)))] sz)) (va_Qv (fun (_ : Unit) => True) (fun (_ : Unit) t => ∃ D' : Nat → Nat → Int32, MOK D' rc M ((L1, (L2.eraseIdx pl), L3, L4), P, bo, nA, nH, nP, nM, KA, TA) ∧ gat G [(cI, .int), (cR, .array .int)] (va_A [(mo, .inr (3, [.int th, .ref rr, .ref si, .ref nb, .ref ak, .ref ha])), (rr, .inl (cR, 7, .inr (.inr (.inr (.inr (RW [b0, b1, b2, b3, b4, b5, b6])))))), (si, .inl (cI, 7, .inl (D 0))), (nb, .inl (cI, 6, .inl (D 1))), (ak, .inl (cI, 30, .inl (D 2))), (ha, .inl (cI, 30, .inl (D 3))), (b0, .inl (cI, 31, .inl (D 4))), (b1, .inl (cI, 31, .inl (D 5))), (b2, .inl (cI, 31, .inl (D 6))), (b3, .inl (cI, 31, .inl (D 7))), (b4, .inl (cI, 31, .inl (D 8))), (b5, .inl (cI, 31, .inl (D 9))), (b6, .inl (cI, 31, .inl (D 10)))] sz) [(mo, .inr (3, [.int th, .ref rr, .ref si, .ref nb, .ref ak, .ref ha])), (rr, .inl (cR, 7, .inr (.inr (.inr (.inr (RW [b0, b1, b2, b3, b4, b5, b6])))))), (si, .inl (cI, 7, .inl (D' 0))), (nb, .inl (cI, 6, .inl (D' 1))), (ak, .inl (cI, 30, .inl (D' 2))), (ha, .inl (cI, 30, .inl (D' 3))), (b0, .inl (cI, 31, .inl (D' 4))), (b1, .inl (cI, 31, .inl (D' 5))), (b2, .inl (cI, 31, .inl (D' 6))), (b3, .inl (cI, 31, .inl (D' 7))), (b4, .inl (cI, 31, .inl (D' 8))), (b5, .inl (cI, 31, .inl (D' 9))), (b6, .inl (cI, 31, .inl (D' 10)))] t) (va_A [(mo, .inr (3, [.int th, .ref rr, .ref si, .ref nb, .ref ak, .ref ha])), (rr, .inl (cR, 7, .inr (.inr (.inr (.inr (RW [b0, b1, b2, b3, b4, b5, b6])))))), (si, .inl (cI, 7, .inl (D 0))), (nb, .inl (cI, 6, .inl (D 1))), (ak, .inl (cI, 30, .inl (D 2))), (ha, .inl (cI, 30, .inl (D 3))), (b0, .inl (cI, 31, .inl (D 4))), (b1, .inl (cI, 31, .inl (D 5))), (b2, .inl (cI, 31, .inl (D 6))), (b3, .inl (cI, 31, .inl (D 7))), (b4, .inl (cI, 31, .inl (D 8))), (b5, .inl (cI, 31, .inl (D 9))), (b6, .inl (cI, 31, .inl (D 10)))] sz)) 0 0 (va_A [(mo, .inr (3, [.int th, .ref rr, .ref si, .ref nb, .ref ak, .ref ha])), (rr, .inl (cR, 7, .inr (.inr (.inr (.inr (RW [b0, b1, b2, b3, b4, b5, b6])))))), (si, .inl (cI, 7, .inl (D 0))), (nb, .inl (cI, 6, .inl (D 1))), (ak, .inl (cI, 30, .inl (D 2))), (ha, .inl (cI, 30, .inl (D 3))), (b0, .inl (cI, 31, .inl (D 4))), (b1, .inl (cI, 31, .inl (D 5))), (b2, .inl (cI, 31, .inl (D 6))), (b3, .inl (cI, 31, .inl (D 7))), (b4, .inl (cI, 31, .inl (D 8))), (b5, .inl (cI, 31, .inl (D 9))), (b6, .inl (cI, 31, .inl (D 10)))] sz) := by
  refine Met.ofW (cc := cX3_takeOut) (maxL := 3) (ret := none) (by decide) rfl ?_
  intro p e s m args below meth c s₁ B hml hv
  obtain ⟨rfl, hsz, hP, hK, hD0⟩ := hv
  have hx := B.exec
  have hb := B.bytes
  have hr := B.returns
  have hts := atoms_spec (ws := wsX3_takeOut) B.pre
  have hown : s.vm.findClass RX3 = some m.cls := findClass_of_methodNamed B.named
  have hlocks := B.notSynchronized
  subst hsz
  have hD := hD0.self (sz := s.heap.size)
  clear hD0
  generalize hAe : va_A [(mo, .inr (3, [.int th, .ref rr, .ref si, .ref nb, .ref ak, .ref ha])), (rr, .inl (cR, 7, .inr (.inr (.inr (.inr (RW [b0, b1, b2, b3, b4, b5, b6])))))), (si, .inl (cI, 7, .inl (D 0))), (nb, .inl (cI, 6, .inl (D 1))), (ak, .inl (cI, 30, .inl (D 2))), (ha, .inl (cI, 30, .inl (D 3))), (b0, .inl (cI, 31, .inl (D 4))), (b1, .inl (cI, 31, .inl (D 5))), (b2, .inl (cI, 31, .inl (D 6))), (b3, .inl (cI, 31, .inl (D 7))), (b4, .inl (cI, 31, .inl (D 8))), (b5, .inl (cI, 31, .inl (D 9))), (b6, .inl (cI, 31, .inl (D 10)))] s.heap.size = A at hD ⊢
  have hA : ∀ q : Nat, s.heap.size ≤ q → A q := fun q h => by rw [← hAe]; exact Or.inr h
  have hS : va_S A s.heap s.heap [] := va_S.rf
  have hP : va_P G vwCl [(mo, .inr (3, [.int th, .ref rr, .ref si, .ref nb, .ref ak, .ref ha])), (rr, .inl (cR, 7, .inr (.inr (.inr (.inr (RW [b0, b1, b2, b3, b4, b5, b6])))))), (si, .inl (cI, 7, .inl (D 0))), (nb, .inl (cI, 6, .inl (D 1))), (ak, .inl (cI, 30, .inl (D 2))), (ha, .inl (cI, 30, .inl (D 3))), (b0, .inl (cI, 31, .inl (D 4))), (b1, .inl (cI, 31, .inl (D 5))), (b2, .inl (cI, 31, .inl (D 6))), (b3, .inl (cI, 31, .inl (D 7))), (b4, .inl (cI, 31, .inl (D 8))), (b5, .inl (cI, 31, .inl (D 9))), (b6, .inl (cI, 31, .inl (D 10)))] s.heap := hP
  have hl := lv_entry ([.ref mo, .int (nI 2), .int (nI pl)]) (n := 3) (Nat.le_of_ble_eq_true rfl)
  rw [lg_entry_eq]
  generalize (lg_sl ([.ref mo, .int (nI 2), .int (nI pl)]) ++ List.replicate (3 - (lg_sl ([.ref mo, .int (nI 2), .int (nI pl)])).length) Slot.unset).toArray = ls at hl ⊢
  have hl : lv_has ls 3 [(0, .ref mo), (1, .int (nI 2)), (2, .int (nI pl))] := hl
  refine lv_aload_n hx hb dX3_takeOut_0 rfl (lv_at hl 0 rfl) ?_
  refine va_get (D := G) (ci := 3) (v := .ref si) (C := RX3) (T := TX3) (N := 6) hx hb hts iX3_takeOut_X3 hown hK hP 0 rfl rfl 2 (by decide) (hts (.fieldLink RX3 14 "GhostPantryModel" "sizes" "[I") (by decide +kernel)) (fun _ h9 => h9) rfl dX3_takeOut_1 ?_
  refine lv_iload_n hx hb dX3_takeOut_4 rfl (lv_at hl 1 rfl) ?_
  refine lv_dup2_11 hx hb dX3_takeOut_5 rfl rfl ?_
  refine g_iald hx hb hK hP 2 0 rfl rfl (i := 2) (by decide) (by decide) dX3_takeOut_6 (v := (nI L2.length)) (hM.2.2.2.2.2.2.2.1) ?_
  refine lv_iconst (v := (nI 1)) hx hb dX3_takeOut_7 (by decide +kernel) ?_
  refine g_isub hx hb dX3_takeOut_8 (by omega) ?_
  refine g_iast hx hb hK hP hD hS 2 0 rfl rfl (i := 2) (x := (nI (L2.length - 1))) (by decide) (by decide) dX3_takeOut_9 (fun H_1 locs hP1 hD1 hS1 => ?_)
  clear hP hD hS
  have hP : va_P G vwCl [(mo, .inr (3, [.int th, .ref rr, .ref si, .ref nb, .ref ak, .ref ha])), (rr, .inl (cR, 7, .inr (.inr (.inr (.inr (RW [b0, b1, b2, b3, b4, b5, b6])))))), (si, .inl (cI, 7, .inl (upd (D 0) 2 (nI (L2.length - 1))))), (nb, .inl (cI, 6, .inl (D 1))), (ak, .inl (cI, 30, .inl (D 2))), (ha, .inl (cI, 30, .inl (D 3))), (b0, .inl (cI, 31, .inl (D 4))), (b1, .inl (cI, 31, .inl (D 5))), (b2, .inl (cI, 31, .inl (D 6))), (b3, .inl (cI, 31, .inl (D 7))), (b4, .inl (cI, 31, .inl (D 8))), (b5, .inl (cI, 31, .inl (D 9))), (b6, .inl (cI, 31, .inl (D 10)))] H_1 := hP1
  have hD : va_D A [(mo, .inr (3, [.int th, .ref rr, .ref si, .ref nb, .ref ak, .ref ha])), (rr, .inl (cR, 7, .inr (.inr (.inr (.inr (RW [b0, b1, b2, b3, b4, b5, b6])))))), (si, .inl (cI, 7, .inl (upd (D 0) 2 (nI (L2.length - 1))))), (nb, .inl (cI, 6, .inl (D 1))), (ak, .inl (cI, 30, .inl (D 2))), (ha, .inl (cI, 30, .inl (D 3))), (b0, .inl (cI, 31, .inl (D 4))), (b1, .inl (cI, 31, .inl (D 5))), (b2, .inl (cI, 31, .inl (D 6))), (b3, .inl (cI, 31, .inl (D 7))), (b4, .inl (cI, 31, .inl (D 8))), (b5, .inl (cI, 31, .inl (D 9))), (b6, .inl (cI, 31, .inl (D 10)))] := hD1
  have hS := hS1
  clear hP1 hD1 hS1
  refine lv_aload_n hx hb dX3_takeOut_10 rfl (lv_at hl 0 rfl) ?_
  refine va_get (D := G) (ci := 3) (v := .ref rr) (C := RX3) (T := TX3) (N := 6) hx hb hts iX3_takeOut_X3 hown hK hP 0 rfl rfl 1 (by decide) (hts (.fieldLink RX3 11 "GhostPantryModel" "rows" "[[I") (by decide +kernel)) (fun _ h9 => h9) rfl dX3_takeOut_11 ?_
  refine lv_iload_n hx hb dX3_takeOut_14 rfl (lv_at hl 1 rfl) ?_
  refine g_aald hx hb hK hP 1 1 rfl rfl (i := 2) (by decide) (by decide) dX3_takeOut_15 (b := b2) (rfl) ?_
  refine lv_iload_n hx hb dX3_takeOut_16 rfl (lv_at hl 2 rfl) ?_
  refine lv_iconst (v := (nI 1)) hx hb dX3_takeOut_17 (by decide +kernel) ?_
  refine g_iadd hx hb dX3_takeOut_18 ?_
  refine lv_aload_n hx hb dX3_takeOut_19 rfl (lv_at hl 0 rfl) ?_
  refine va_get (D := G) (ci := 3) (v := .ref rr) (C := RX3) (T := TX3) (N := 6) hx hb hts iX3_takeOut_X3 hown hK hP 0 rfl rfl 1 (by decide) (hts (.fieldLink RX3 11 "GhostPantryModel" "rows" "[[I") (by decide +kernel)) (fun _ h9 => h9) rfl dX3_takeOut_20 ?_
  refine lv_iload_n hx hb dX3_takeOut_23 rfl (lv_at hl 1 rfl) ?_
  refine g_aald hx hb hK hP 1 1 rfl rfl (i := 2) (by decide) (by decide) dX3_takeOut_24 (b := b2) (rfl) ?_
  refine lv_iload_n hx hb dX3_takeOut_25 rfl (lv_at hl 2 rfl) ?_
  refine lv_aload_n hx hb dX3_takeOut_26 rfl (lv_at hl 0 rfl) ?_
  refine va_get (D := G) (ci := 3) (v := .ref si) (C := RX3) (T := TX3) (N := 6) hx hb hts iX3_takeOut_X3 hown hK hP 0 rfl rfl 2 (by decide) (hts (.fieldLink RX3 14 "GhostPantryModel" "sizes" "[I") (by decide +kernel)) (fun _ h9 => h9) rfl dX3_takeOut_27 ?_
  refine lv_iload_n hx hb dX3_takeOut_30 rfl (lv_at hl 1 rfl) ?_
  refine g_iald hx hb hK hP 2 0 rfl rfl (i := 2) (by decide) (by decide) dX3_takeOut_31 (v := (nI (L2.length - 1))) (rfl) ?_
  refine lv_iload_n hx hb dX3_takeOut_32 rfl (lv_at hl 2 rfl) ?_
  refine g_isub hx hb dX3_takeOut_33 (by omega) ?_
  refine g_copyi hx hb (hml.trans hl.1.symm) hown (hts (.methodLink RX3 39 arraycopyName) (by decide +kernel)) (hts (.native arraycopyName) (by decide +kernel)) (hts (.static arraycopyName) (by decide +kernel)) (hts (.initialized "java/lang/System") (by decide +kernel)) hK hP hD hS 8 8 0 rfl rfl rfl (sp := (pl + 1)) (dp := pl) (n := ((L2.length - 1) - pl)) (by omega) (by omega) (by omega) (by omega) (by omega) (Nat.le_of_ble_eq_true rfl) (Nat.le_of_ble_eq_true rfl) dX3_takeOut_34 (fun H_2 locs hP1 hD1 hS1 => ?_)
  clear hP hD hS
  have hP : va_P G vwCl [(mo, .inr (3, [.int th, .ref rr, .ref si, .ref nb, .ref ak, .ref ha])), (rr, .inl (cR, 7, .inr (.inr (.inr (.inr (RW [b0, b1, b2, b3, b4, b5, b6])))))), (si, .inl (cI, 7, .inl (upd (D 0) 2 (nI (L2.length - 1))))), (nb, .inl (cI, 6, .inl (D 1))), (ak, .inl (cI, 30, .inl (D 2))), (ha, .inl (cI, 30, .inl (D 3))), (b0, .inl (cI, 31, .inl (D 4))), (b1, .inl (cI, 31, .inl (D 5))), (b2, .inl (cI, 31, .inl (va_cpy (D 6) (D 6) (pl + 1) pl ((L2.length - 1) - pl)))), (b3, .inl (cI, 31, .inl (D 7))), (b4, .inl (cI, 31, .inl (D 8))), (b5, .inl (cI, 31, .inl (D 9))), (b6, .inl (cI, 31, .inl (D 10)))] H_2 := hP1
  have hD : va_D A [(mo, .inr (3, [.int th, .ref rr, .ref si, .ref nb, .ref ak, .ref ha])), (rr, .inl (cR, 7, .inr (.inr (.inr (.inr (RW [b0, b1, b2, b3, b4, b5, b6])))))), (si, .inl (cI, 7, .inl (upd (D 0) 2 (nI (L2.length - 1))))), (nb, .inl (cI, 6, .inl (D 1))), (ak, .inl (cI, 30, .inl (D 2))), (ha, .inl (cI, 30, .inl (D 3))), (b0, .inl (cI, 31, .inl (D 4))), (b1, .inl (cI, 31, .inl (D 5))), (b2, .inl (cI, 31, .inl (va_cpy (D 6) (D 6) (pl + 1) pl ((L2.length - 1) - pl)))), (b3, .inl (cI, 31, .inl (D 7))), (b4, .inl (cI, 31, .inl (D 8))), (b5, .inl (cI, 31, .inl (D 9))), (b6, .inl (cI, 31, .inl (D 10)))] := hD1
  have hS := hS1
  clear hP1 hD1 hS1
  have hP9 := hP.sub (ws' := [(mo, .inr (3, [.int th, .ref rr, .ref si, .ref nb, .ref ak, .ref ha])), (rr, .inl (cR, 7, .inr (.inr (.inr (.inr (RW [b0, b1, b2, b3, b4, b5, b6])))))), (si, .inl (cI, 7, .inl (upd (D 0) 2 (nI (L2.length - 1))))), (nb, .inl (cI, 6, .inl (D 1))), (ak, .inl (cI, 30, .inl (D 2))), (ha, .inl (cI, 30, .inl (D 3))), (b0, .inl (cI, 31, .inl (D 4))), (b1, .inl (cI, 31, .inl (D 5))), (b2, .inl (cI, 31, .inl (va_cpy (D 6) (D 6) (pl + 1) pl ((L2.length - 1) - pl)))), (b3, .inl (cI, 31, .inl (D 7))), (b4, .inl (cI, 31, .inl (D 8))), (b5, .inl (cI, 31, .inl (D 9))), (b6, .inl (cI, 31, .inl (D 10)))]) [0, 1, 2, 3, 4, 5, 6, 7, 8, 9, 10, 11, 12] rfl
  have hD9 := hD.sub (ws' := [(mo, .inr (3, [.int th, .ref rr, .ref si, .ref nb, .ref ak, .ref ha])), (rr, .inl (cR, 7, .inr (.inr (.inr (.inr (RW [b0, b1, b2, b3, b4, b5, b6])))))), (si, .inl (cI, 7, .inl (upd (D 0) 2 (nI (L2.length - 1))))), (nb, .inl (cI, 6, .inl (D 1))), (ak, .inl (cI, 30, .inl (D 2))), (ha, .inl (cI, 30, .inl (D 3))), (b0, .inl (cI, 31, .inl (D 4))), (b1, .inl (cI, 31, .inl (D 5))), (b2, .inl (cI, 31, .inl (va_cpy (D 6) (D 6) (pl + 1) pl ((L2.length - 1) - pl)))), (b3, .inl (cI, 31, .inl (D 7))), (b4, .inl (cI, 31, .inl (D 8))), (b5, .inl (cI, 31, .inl (D 9))), (b6, .inl (cI, 31, .inl (D 10)))]) [0, 1, 2, 3, 4, 5, 6, 7, 8, 9, 10, 11, 12] (by decide) rfl
  exact W.vret hx hb hr (fun t ht hW => ⟨⟨(), rfl, trivial, (dat (upd (D 0) 2 (nI (L2.length - 1))) (D 1) (D 2) (D 3) (D 4) (D 5) (va_cpy (D 6) (D 6) (pl + 1) pl ((L2.length - 1) - pl)) (D 7) (D 8) (D 9) (D 10)), ⟨hM.1, (Rw_erase2 hM.2.1 hp), hM.2.2.1, hM.2.2.2.1, hM.2.2.2.2.1, hM.2.2.2.2.2.1, hM.2.2.2.2.2.2.1, (congrArg nI (List.length_eraseIdx_of_lt hp).symm), hM.2.2.2.2.2.2.2.2.1, hM.2.2.2.2.2.2.2.2.2.1, hM.2.2.2.2.2.2.2.2.2.2.1, hM.2.2.2.2.2.2.2.2.2.2.2.1, hM.2.2.2.2.2.2.2.2.2.2.2.2.1, hM.2.2.2.2.2.2.2.2.2.2.2.2.2.1, hM.2.2.2.2.2.2.2.2.2.2.2.2.2.2.1, hM.2.2.2.2.2.2.2.2.2.2.2.2.2.2.2.1, hM.2.2.2.2.2.2.2.2.2.2.2.2.2.2.2.2.1, hM.2.2.2.2.2.2.2.2.2.2.2.2.2.2.2.2.2.1, hM.2.2.2.2.2.2.2.2.2.2.2.2.2.2.2.2.2.2.1, hM.2.2.2.2.2.2.2.2.2.2.2.2.2.2.2.2.2.2.2⟩, g_at hP9 hK hD9 ht hW⟩, hS.F ht⟩) hS.2.2 dX3_takeOut_37

set_option maxHeartbeats 4000000 in
set_option maxRecDepth 100000 in
theorem c_X3_last_2 (l : Launch) (G : va_G) (cI cR : ClassId) (mo rr si nb ak ha b0 b1 b2 b3 b4 b5 b6 : Nat) (th : Int32) (D : Nat → Nat → Int32) (L1 L2 L3 L4 P M : List Int32) (rc bo : Nat) (nA nH nP nM : Int32) (KA TA : Nat → Int32) (hM : MOK D rc M ((L1, L2, L3, L4), P, bo, nA, nH, nP, nM, KA, TA)) (h0 : 0 < L2.length) (h30 : L2.length ≤ 30) (sz : Nat) : Met l yX3_last wsX3_last ({ frames := 0, cells := 0, slots := 0, locals := 0 }) (va_Pc [.ref mo, .int (nI 2)] (gpre G [(cI, .int), (cR, .array .int)] [(mo, .inr (3, [.int th, .ref rr, .ref si, .ref nb, .ref ak, .ref ha])), (rr, .inl (cR, 7, .inr (.inr (.inr (.inr (RW [b0, b1, b2, b3, b4, b5, b6])))))), (si, .inl (cI, 7, .inl (D 0))), (nb, .inl (cI, 6, .inl (D 1))), (ak, .inl (cI, 30, .inl (D 2))), (ha, .inl (cI, 30, .inl (D 3))), (b0, .inl (cI, 31, .inl (D 4))), (b1, .inl (cI, 31, .inl (D 5))), (b2, .inl (cI, 31, .inl (D 6))), (b3, .inl (cI, 31, .inl (D 7))), (b4, .inl (cI, 31, .inl (D 8))), (b5, .inl (cI, 31, .inl (D 9))), (b6, .inl (cI, 31, .inl (D 10)))] sz)) (va_Qi (fun (z : Int32) (_ : Unit) => z = lst L2) (fun (_ : Unit) t => ∃ D' : Nat → Nat → Int32, MOK D' rc M ((L1, L2.dropLast, L3, L4), P, bo, nA, nH, nP, nM, KA, TA) ∧ gat G [(cI, .int), (cR, .array .int)] (va_A [(mo, .inr (3, [.int th, .ref rr, .ref si, .ref nb, .ref ak, .ref ha])), (rr, .inl (cR, 7, .inr (.inr (.inr (.inr (RW [b0, b1, b2, b3, b4, b5, b6])))))), (si, .inl (cI, 7, .inl (D 0))), (nb, .inl (cI, 6, .inl (D 1))), (ak, .inl (cI, 30, .inl (D 2))), (ha, .inl (cI, 30, .inl (D 3))), (b0, .inl (cI, 31, .inl (D 4))), (b1, .inl (cI, 31, .inl (D 5))), (b2, .inl (cI, 31, .inl (D 6))), (b3, .inl (cI, 31, .inl (D 7))), (b4, .inl (cI, 31, .inl (D 8))), (b5, .inl (cI, 31, .inl (D 9))), (b6, .inl (cI, 31, .inl (D 10)))] sz) [(mo, .inr (3, [.int th, .ref rr, .ref si, .ref nb, .ref ak, .ref ha])), (rr, .inl (cR, 7, .inr (.inr (.inr (.inr (RW [b0, b1, b2, b3, b4, b5, b6])))))), (si, .inl (cI, 7, .inl (D' 0))), (nb, .inl (cI, 6, .inl (D' 1))), (ak, .inl (cI, 30, .inl (D' 2))), (ha, .inl (cI, 30, .inl (D' 3))), (b0, .inl (cI, 31, .inl (D' 4))), (b1, .inl (cI, 31, .inl (D' 5))), (b2, .inl (cI, 31, .inl (D' 6))), (b3, .inl (cI, 31, .inl (D' 7))), (b4, .inl (cI, 31, .inl (D' 8))), (b5, .inl (cI, 31, .inl (D' 9))), (b6, .inl (cI, 31, .inl (D' 10)))] t) (va_A [(mo, .inr (3, [.int th, .ref rr, .ref si, .ref nb, .ref ak, .ref ha])), (rr, .inl (cR, 7, .inr (.inr (.inr (.inr (RW [b0, b1, b2, b3, b4, b5, b6])))))), (si, .inl (cI, 7, .inl (D 0))), (nb, .inl (cI, 6, .inl (D 1))), (ak, .inl (cI, 30, .inl (D 2))), (ha, .inl (cI, 30, .inl (D 3))), (b0, .inl (cI, 31, .inl (D 4))), (b1, .inl (cI, 31, .inl (D 5))), (b2, .inl (cI, 31, .inl (D 6))), (b3, .inl (cI, 31, .inl (D 7))), (b4, .inl (cI, 31, .inl (D 8))), (b5, .inl (cI, 31, .inl (D 9))), (b6, .inl (cI, 31, .inl (D 10)))] sz)) 0 0 (va_A [(mo, .inr (3, [.int th, .ref rr, .ref si, .ref nb, .ref ak, .ref ha])), (rr, .inl (cR, 7, .inr (.inr (.inr (.inr (RW [b0, b1, b2, b3, b4, b5, b6])))))), (si, .inl (cI, 7, .inl (D 0))), (nb, .inl (cI, 6, .inl (D 1))), (ak, .inl (cI, 30, .inl (D 2))), (ha, .inl (cI, 30, .inl (D 3))), (b0, .inl (cI, 31, .inl (D 4))), (b1, .inl (cI, 31, .inl (D 5))), (b2, .inl (cI, 31, .inl (D 6))), (b3, .inl (cI, 31, .inl (D 7))), (b4, .inl (cI, 31, .inl (D 8))), (b5, .inl (cI, 31, .inl (D 9))), (b6, .inl (cI, 31, .inl (D 10)))] sz) := by
  refine Met.ofW (cc := cX3_last) (maxL := 2) (ret := (some .int)) (by decide) rfl ?_
  intro p e s m args below meth c s₁ B hml hv
  obtain ⟨rfl, hsz, hP, hK, hD0⟩ := hv
  have hx := B.exec
  have hb := B.bytes
  have hr := B.returns
  have hts := atoms_spec (ws := wsX3_last) B.pre
  have hown : s.vm.findClass RX3 = some m.cls := findClass_of_methodNamed B.named
  have hlocks := B.notSynchronized
  subst hsz
  have hD := hD0.self (sz := s.heap.size)
  clear hD0
  generalize hAe : va_A [(mo, .inr (3, [.int th, .ref rr, .ref si, .ref nb, .ref ak, .ref ha])), (rr, .inl (cR, 7, .inr (.inr (.inr (.inr (RW [b0, b1, b2, b3, b4, b5, b6])))))), (si, .inl (cI, 7, .inl (D 0))), (nb, .inl (cI, 6, .inl (D 1))), (ak, .inl (cI, 30, .inl (D 2))), (ha, .inl (cI, 30, .inl (D 3))), (b0, .inl (cI, 31, .inl (D 4))), (b1, .inl (cI, 31, .inl (D 5))), (b2, .inl (cI, 31, .inl (D 6))), (b3, .inl (cI, 31, .inl (D 7))), (b4, .inl (cI, 31, .inl (D 8))), (b5, .inl (cI, 31, .inl (D 9))), (b6, .inl (cI, 31, .inl (D 10)))] s.heap.size = A at hD ⊢
  have hA : ∀ q : Nat, s.heap.size ≤ q → A q := fun q h => by rw [← hAe]; exact Or.inr h
  have hS : va_S A s.heap s.heap [] := va_S.rf
  have hP : va_P G vwCl [(mo, .inr (3, [.int th, .ref rr, .ref si, .ref nb, .ref ak, .ref ha])), (rr, .inl (cR, 7, .inr (.inr (.inr (.inr (RW [b0, b1, b2, b3, b4, b5, b6])))))), (si, .inl (cI, 7, .inl (D 0))), (nb, .inl (cI, 6, .inl (D 1))), (ak, .inl (cI, 30, .inl (D 2))), (ha, .inl (cI, 30, .inl (D 3))), (b0, .inl (cI, 31, .inl (D 4))), (b1, .inl (cI, 31, .inl (D 5))), (b2, .inl (cI, 31, .inl (D 6))), (b3, .inl (cI, 31, .inl (D 7))), (b4, .inl (cI, 31, .inl (D 8))), (b5, .inl (cI, 31, .inl (D 9))), (b6, .inl (cI, 31, .inl (D 10)))] s.heap := hP
  have hl := lv_entry ([.ref mo, .int (nI 2)]) (n := 2) (Nat.le_of_ble_eq_true rfl)
  rw [lg_entry_eq]
  generalize (lg_sl ([.ref mo, .int (nI 2)]) ++ List.replicate (2 - (lg_sl ([.ref mo, .int (nI 2)])).length) Slot.unset).toArray = ls at hl ⊢
  have hl : lv_has ls 2 [(0, .ref mo), (1, .int (nI 2))] := hl
  refine lv_aload_n hx hb dX3_last_0 rfl (lv_at hl 0 rfl) ?_
  refine va_get (D := G) (ci := 3) (v := .ref si) (C := RX3) (T := TX3) (N := 6) hx hb hts iX3_last_X3 hown hK hP 0 rfl rfl 2 (by decide) (hts (.fieldLink RX3 14 "GhostPantryModel" "sizes" "[I") (by decide +kernel)) (fun _ h9 => h9) rfl dX3_last_1 ?_
  refine lv_iload_n hx hb dX3_last_4 rfl (lv_at hl 1 rfl) ?_
  refine lv_dup2_11 hx hb dX3_last_5 rfl rfl ?_
  refine g_iald hx hb hK hP 2 0 rfl rfl (i := 2) (by decide) (by decide) dX3_last_6 (v := (nI L2.length)) (hM.2.2.2.2.2.2.2.1) ?_
  refine lv_iconst (v := (nI 1)) hx hb dX3_last_7 (by decide +kernel) ?_
  refine g_isub hx hb dX3_last_8 (by omega) ?_
  refine g_iast hx hb hK hP hD hS 2 0 rfl rfl (i := 2) (x := (nI (L2.length - 1))) (by decide) (by decide) dX3_last_9 (fun H_1 locs hP1 hD1 hS1 => ?_)
  clear hP hD hS
  have hP : va_P G vwCl [(mo, .inr (3, [.int th, .ref rr, .ref si, .ref nb, .ref ak, .ref ha])), (rr, .inl (cR, 7, .inr (.inr (.inr (.inr (RW [b0, b1, b2, b3, b4, b5, b6])))))), (si, .inl (cI, 7, .inl (upd (D 0) 2 (nI (L2.length - 1))))), (nb, .inl (cI, 6, .inl (D 1))), (ak, .inl (cI, 30, .inl (D 2))), (ha, .inl (cI, 30, .inl (D 3))), (b0, .inl (cI, 31, .inl (D 4))), (b1, .inl (cI, 31, .inl (D 5))), (b2, .inl (cI, 31, .inl (D 6))), (b3, .inl (cI, 31, .inl (D 7))), (b4, .inl (cI, 31, .inl (D 8))), (b5, .inl (cI, 31, .inl (D 9))), (b6, .inl (cI, 31, .inl (D 10)))] H_1 := hP1
  have hD : va_D A [(mo, .inr (3, [.int th, .ref rr, .ref si, .ref nb, .ref ak, .ref ha])), (rr, .inl (cR, 7, .inr (.inr (.inr (.inr (RW [b0, b1, b2, b3, b4, b5, b6])))))), (si, .inl (cI, 7, .inl (upd (D 0) 2 (nI (L2.length - 1))))), (nb, .inl (cI, 6, .inl (D 1))), (ak, .inl (cI, 30, .inl (D 2))), (ha, .inl (cI, 30, .inl (D 3))), (b0, .inl (cI, 31, .inl (D 4))), (b1, .inl (cI, 31, .inl (D 5))), (b2, .inl (cI, 31, .inl (D 6))), (b3, .inl (cI, 31, .inl (D 7))), (b4, .inl (cI, 31, .inl (D 8))), (b5, .inl (cI, 31, .inl (D 9))), (b6, .inl (cI, 31, .inl (D 10)))] := hD1
  have hS := hS1
  clear hP1 hD1 hS1
  refine lv_aload_n hx hb dX3_last_10 rfl (lv_at hl 0 rfl) ?_
  refine va_get (D := G) (ci := 3) (v := .ref rr) (C := RX3) (T := TX3) (N := 6) hx hb hts iX3_last_X3 hown hK hP 0 rfl rfl 1 (by decide) (hts (.fieldLink RX3 11 "GhostPantryModel" "rows" "[[I") (by decide +kernel)) (fun _ h9 => h9) rfl dX3_last_11 ?_
  refine lv_iload_n hx hb dX3_last_14 rfl (lv_at hl 1 rfl) ?_
  refine g_aald hx hb hK hP 1 1 rfl rfl (i := 2) (by decide) (by decide) dX3_last_15 (b := b2) (rfl) ?_
  refine lv_aload_n hx hb dX3_last_16 rfl (lv_at hl 0 rfl) ?_
  refine va_get (D := G) (ci := 3) (v := .ref si) (C := RX3) (T := TX3) (N := 6) hx hb hts iX3_last_X3 hown hK hP 0 rfl rfl 2 (by decide) (hts (.fieldLink RX3 14 "GhostPantryModel" "sizes" "[I") (by decide +kernel)) (fun _ h9 => h9) rfl dX3_last_17 ?_
  refine lv_iload_n hx hb dX3_last_20 rfl (lv_at hl 1 rfl) ?_
  refine g_iald hx hb hK hP 2 0 rfl rfl (i := 2) (by decide) (by decide) dX3_last_21 (v := (nI (L2.length - 1))) (rfl) ?_
  refine g_iald hx hb hK hP 8 0 rfl rfl (i := (L2.length - 1)) (by omega) (by decide) dX3_last_22 (v := (lst L2)) (Rw_lst hM.2.1 h0) ?_
  have hP9 := hP.sub (ws' := [(mo, .inr (3, [.int th, .ref rr, .ref si, .ref nb, .ref ak, .ref ha])), (rr, .inl (cR, 7, .inr (.inr (.inr (.inr (RW [b0, b1, b2, b3, b4, b5, b6])))))), (si, .inl (cI, 7, .inl (upd (D 0) 2 (nI (L2.length - 1))))), (nb, .inl (cI, 6, .inl (D 1))), (ak, .inl (cI, 30, .inl (D 2))), (ha, .inl (cI, 30, .inl (D 3))), (b0, .inl (cI, 31, .inl (D 4))), (b1, .inl (cI, 31, .inl (D 5))), (b2, .inl (cI, 31, .inl (D 6))), (b3, .inl (cI, 31, .inl (D 7))), (b4, .inl (cI, 31, .inl (D 8))), (b5, .inl (cI, 31, .inl (D 9))), (b6, .inl (cI, 31, .inl (D 10)))]) [0, 1, 2, 3, 4, 5, 6, 7, 8, 9, 10, 11, 12] rfl
  have hD9 := hD.sub (ws' := [(mo, .inr (3, [.int th, .ref rr, .ref si, .ref nb, .ref ak, .ref ha])), (rr, .inl (cR, 7, .inr (.inr (.inr (.inr (RW [b0, b1, b2, b3, b4, b5, b6])))))), (si, .inl (cI, 7, .inl (upd (D 0) 2 (nI (L2.length - 1))))), (nb, .inl (cI, 6, .inl (D 1))), (ak, .inl (cI, 30, .inl (D 2))), (ha, .inl (cI, 30, .inl (D 3))), (b0, .inl (cI, 31, .inl (D 4))), (b1, .inl (cI, 31, .inl (D 5))), (b2, .inl (cI, 31, .inl (D 6))), (b3, .inl (cI, 31, .inl (D 7))), (b4, .inl (cI, 31, .inl (D 8))), (b5, .inl (cI, 31, .inl (D 9))), (b6, .inl (cI, 31, .inl (D 10)))]) [0, 1, 2, 3, 4, 5, 6, 7, 8, 9, 10, 11, 12] (by decide) rfl
  exact W.iret (v := (lst L2)) hx hb hr (fun t ht hW => ⟨⟨(lst L2), (), rfl, rfl, (dat (upd (D 0) 2 (nI (L2.length - 1))) (D 1) (D 2) (D 3) (D 4) (D 5) (D 6) (D 7) (D 8) (D 9) (D 10)), ⟨hM.1, (Rw_drop hM.2.1), hM.2.2.1, hM.2.2.2.1, hM.2.2.2.2.1, hM.2.2.2.2.2.1, hM.2.2.2.2.2.2.1, (congrArg nI List.length_dropLast.symm), hM.2.2.2.2.2.2.2.2.1, hM.2.2.2.2.2.2.2.2.2.1, hM.2.2.2.2.2.2.2.2.2.2.1, hM.2.2.2.2.2.2.2.2.2.2.2.1, hM.2.2.2.2.2.2.2.2.2.2.2.2.1, hM.2.2.2.2.2.2.2.2.2.2.2.2.2.1, hM.2.2.2.2.2.2.2.2.2.2.2.2.2.2.1, hM.2.2.2.2.2.2.2.2.2.2.2.2.2.2.2.1, hM.2.2.2.2.2.2.2.2.2.2.2.2.2.2.2.2.1, hM.2.2.2.2.2.2.2.2.2.2.2.2.2.2.2.2.2.1, hM.2.2.2.2.2.2.2.2.2.2.2.2.2.2.2.2.2.2.1, hM.2.2.2.2.2.2.2.2.2.2.2.2.2.2.2.2.2.2.2⟩, g_at hP9 hK hD9 ht hW⟩, hS.F ht⟩) hS.2.2 dX3_last_23

set_option maxHeartbeats 4000000 in
set_option maxRecDepth 100000 in
theorem c_X3_toFront_3 (l : Launch) (G : va_G) (cI cR : ClassId) (mo rr si nb ak ha b0 b1 b2 b3 b4 b5 b6 : Nat) (th : Int32) (D : Nat → Nat → Int32) (L1 L2 L3 L4 P M : List Int32) (rc bo : Nat) (nA nH nP nM : Int32) (KA TA : Nat → Int32) (hM : MOK D rc M ((L1, L2, L3, L4), P, bo, nA, nH, nP, nM, KA, TA)) (jar : Int32) (h30 : L3.length ≤ 30) (sz : Nat) : Met l yX3_toFront wsX3_toFront ({ frames := 1, cells := 0, slots := 0, locals := 18 }) (va_Pc [.ref mo, .int (nI 3), .int jar] (gpre G [(cI, .int), (cR, .array .int)] [(mo, .inr (3, [.int th, .ref rr, .ref si, .ref nb, .ref ak, .ref ha])), (rr, .inl (cR, 7, .inr (.inr (.inr (.inr (RW [b0, b1, b2, b3, b4, b5, b6])))))), (si, .inl (cI, 7, .inl (D 0))), (nb, .inl (cI, 6, .inl (D 1))), (ak, .inl (cI, 30, .inl (D 2))), (ha, .inl (cI, 30, .inl (D 3))), (b0, .inl (cI, 31, .inl (D 4))), (b1, .inl (cI, 31, .inl (D 5))), (b2, .inl (cI, 31, .inl (D 6))), (b3, .inl (cI, 31, .inl (D 7))), (b4, .inl (cI, 31, .inl (D 8))), (b5, .inl (cI, 31, .inl (D 9))), (b6, .inl (cI, 31, .inl (D 10)))] sz)) (va_Qv (fun (_ : Unit) => True) (fun (_ : Unit) t => ∃ D' : Nat → Nat → Int32, MOK D' rc M ((L1, L2, (jar :: L3), L4), P, bo, nA, nH, nP, nM, KA, TA) ∧ gat G [(cI, .int), (cR, .array .int)] (va_A [(mo, .inr (3, [.int th, .ref rr, .ref si, .ref nb, .ref ak, .ref ha])), (rr, .inl (cR, 7, .inr (.inr (.inr (.inr (RW [b0, b1, b2, b3, b4, b5, b6])))))), (si, .inl (cI, 7, .inl (D 0))), (nb, .inl (cI, 6, .inl (D 1))), (ak, .inl (cI, 30, .inl (D 2))), (ha, .inl (cI, 30, .inl (D 3))), (b0, .inl (cI, 31, .inl (D 4))), (b1, .inl (cI, 31, .inl (D 5))), (b2, .inl (cI, 31, .inl (D 6))), (b3, .inl (cI, 31, .inl (D 7))), (b4, .inl (cI, 31, .inl (D 8))), (b5, .inl (cI, 31, .inl (D 9))), (b6, .inl (cI, 31, .inl (D 10)))] sz) [(mo, .inr (3, [.int th, .ref rr, .ref si, .ref nb, .ref ak, .ref ha])), (rr, .inl (cR, 7, .inr (.inr (.inr (.inr (RW [b0, b1, b2, b3, b4, b5, b6])))))), (si, .inl (cI, 7, .inl (D' 0))), (nb, .inl (cI, 6, .inl (D' 1))), (ak, .inl (cI, 30, .inl (D' 2))), (ha, .inl (cI, 30, .inl (D' 3))), (b0, .inl (cI, 31, .inl (D' 4))), (b1, .inl (cI, 31, .inl (D' 5))), (b2, .inl (cI, 31, .inl (D' 6))), (b3, .inl (cI, 31, .inl (D' 7))), (b4, .inl (cI, 31, .inl (D' 8))), (b5, .inl (cI, 31, .inl (D' 9))), (b6, .inl (cI, 31, .inl (D' 10)))] t) (va_A [(mo, .inr (3, [.int th, .ref rr, .ref si, .ref nb, .ref ak, .ref ha])), (rr, .inl (cR, 7, .inr (.inr (.inr (.inr (RW [b0, b1, b2, b3, b4, b5, b6])))))), (si, .inl (cI, 7, .inl (D 0))), (nb, .inl (cI, 6, .inl (D 1))), (ak, .inl (cI, 30, .inl (D 2))), (ha, .inl (cI, 30, .inl (D 3))), (b0, .inl (cI, 31, .inl (D 4))), (b1, .inl (cI, 31, .inl (D 5))), (b2, .inl (cI, 31, .inl (D 6))), (b3, .inl (cI, 31, .inl (D 7))), (b4, .inl (cI, 31, .inl (D 8))), (b5, .inl (cI, 31, .inl (D 9))), (b6, .inl (cI, 31, .inl (D 10)))] sz)) 0 0 (va_A [(mo, .inr (3, [.int th, .ref rr, .ref si, .ref nb, .ref ak, .ref ha])), (rr, .inl (cR, 7, .inr (.inr (.inr (.inr (RW [b0, b1, b2, b3, b4, b5, b6])))))), (si, .inl (cI, 7, .inl (D 0))), (nb, .inl (cI, 6, .inl (D 1))), (ak, .inl (cI, 30, .inl (D 2))), (ha, .inl (cI, 30, .inl (D 3))), (b0, .inl (cI, 31, .inl (D 4))), (b1, .inl (cI, 31, .inl (D 5))), (b2, .inl (cI, 31, .inl (D 6))), (b3, .inl (cI, 31, .inl (D 7))), (b4, .inl (cI, 31, .inl (D 8))), (b5, .inl (cI, 31, .inl (D 9))), (b6, .inl (cI, 31, .inl (D 10)))] sz) := by
  refine Met.ofW (cc := cX3_toFront) (maxL := 3) (ret := none) (by decide) rfl ?_
  intro p e s m args below meth c s₁ B hml hv
  obtain ⟨rfl, hsz, hP, hK, hD0⟩ := hv
  have hx := B.exec
  have hb := B.bytes
  have hr := B.returns
  have hts := atoms_spec (ws := wsX3_toFront) B.pre
  have hown : s.vm.findClass RX3 = some m.cls := findClass_of_methodNamed B.named
  have hlocks := B.notSynchronized
  subst hsz
  have hD := hD0.self (sz := s.heap.size)
  clear hD0
  generalize hAe : va_A [(mo, .inr (3, [.int th, .ref rr, .ref si, .ref nb, .ref ak, .ref ha])), (rr, .inl (cR, 7, .inr (.inr (.inr (.inr (RW [b0, b1, b2, b3, b4, b5, b6])))))), (si, .inl (cI, 7, .inl (D 0))), (nb, .inl (cI, 6, .inl (D 1))), (ak, .inl (cI, 30, .inl (D 2))), (ha, .inl (cI, 30, .inl (D 3))), (b0, .inl (cI, 31, .inl (D 4))), (b1, .inl (cI, 31, .inl (D 5))), (b2, .inl (cI, 31, .inl (D 6))), (b3, .inl (cI, 31, .inl (D 7))), (b4, .inl (cI, 31, .inl (D 8))), (b5, .inl (cI, 31, .inl (D 9))), (b6, .inl (cI, 31, .inl (D 10)))] s.heap.size = A at hD ⊢
  have hA : ∀ q : Nat, s.heap.size ≤ q → A q := fun q h => by rw [← hAe]; exact Or.inr h
  have hS : va_S A s.heap s.heap [] := va_S.rf
  have hP : va_P G vwCl [(mo, .inr (3, [.int th, .ref rr, .ref si, .ref nb, .ref ak, .ref ha])), (rr, .inl (cR, 7, .inr (.inr (.inr (.inr (RW [b0, b1, b2, b3, b4, b5, b6])))))), (si, .inl (cI, 7, .inl (D 0))), (nb, .inl (cI, 6, .inl (D 1))), (ak, .inl (cI, 30, .inl (D 2))), (ha, .inl (cI, 30, .inl (D 3))), (b0, .inl (cI, 31, .inl (D 4))), (b1, .inl (cI, 31, .inl (D 5))), (b2, .inl (cI, 31, .inl (D 6))), (b3, .inl (cI, 31, .inl (D 7))), (b4, .inl (cI, 31, .inl (D 8))), (b5, .inl (cI, 31, .inl (D 9))), (b6, .inl (cI, 31, .inl (D 10)))] s.heap := hP
  have hl := lv_entry ([.ref mo, .int (nI 3), .int jar]) (n := 3) (Nat.le_of_ble_eq_true rfl)
  rw [lg_entry_eq]
  generalize (lg_sl ([.ref mo, .int (nI 3), .int jar]) ++ List.replicate (3 - (lg_sl ([.ref mo, .int (nI 3), .int jar])).length) Slot.unset).toArray = ls at hl ⊢
  have hl : lv_has ls 3 [(0, .ref mo), (1, .int (nI 3)), (2, .int jar)] := hl
  refine lv_aload_n hx hb dX3_toFront_0 rfl (lv_at hl 0 rfl) ?_
  refine va_get (D := G) (ci := 3) (v := .ref rr) (C := RX3) (T := TX3) (N := 6) hx hb hts iX3_toFront_X3 hown hK hP 0 rfl rfl 1 (by decide) (hts (.fieldLink RX3 11 "GhostPantryModel" "rows" "[[I") (by decide +kernel)) (fun _ h9 => h9) rfl dX3_toFront_1 ?_
  refine lv_iload_n hx hb dX3_toFront_4 rfl (lv_at hl 1 rfl) ?_
  refine g_aald hx hb hK hP 1 1 rfl rfl (i := 3) (by decide) (by decide) dX3_toFront_5 (b := b3) (rfl) ?_
  refine lv_iconst (v := (nI 0)) hx hb dX3_toFront_6 (by decide +kernel) ?_
  refine lv_aload_n hx hb dX3_toFront_7 rfl (lv_at hl 0 rfl) ?_
  refine va_get (D := G) (ci := 3) (v := .ref rr) (C := RX3) (T := TX3) (N := 6) hx hb hts iX3_toFront_X3 hown hK hP 0 rfl rfl 1 (by decide) (hts (.fieldLink RX3 11 "GhostPantryModel" "rows" "[[I") (by decide +kernel)) (fun _ h9 => h9) rfl dX3_toFront_8 ?_
  refine lv_iload_n hx hb dX3_toFront_11 rfl (lv_at hl 1 rfl) ?_
  refine g_aald hx hb hK hP 1 1 rfl rfl (i := 3) (by decide) (by decide) dX3_toFront_12 (b := b3) (rfl) ?_
  refine lv_iconst (v := (nI 1)) hx hb dX3_toFront_13 (by decide +kernel) ?_
  refine lv_aload_n hx hb dX3_toFront_14 rfl (lv_at hl 0 rfl) ?_
  refine va_get (D := G) (ci := 3) (v := .ref si) (C := RX3) (T := TX3) (N := 6) hx hb hts iX3_toFront_X3 hown hK hP 0 rfl rfl 2 (by decide) (hts (.fieldLink RX3 14 "GhostPantryModel" "sizes" "[I") (by decide +kernel)) (fun _ h9 => h9) rfl dX3_toFront_15 ?_
  refine lv_iload_n hx hb dX3_toFront_18 rfl (lv_at hl 1 rfl) ?_
  refine g_iald hx hb hK hP 2 0 rfl rfl (i := 3) (by decide) (by decide) dX3_toFront_19 (v := (nI L3.length)) (hM.2.2.2.2.2.2.2.2.1) ?_
  refine g_copyi hx hb (hml.trans hl.1.symm) hown (hts (.methodLink RX3 39 arraycopyName) (by decide +kernel)) (hts (.native arraycopyName) (by decide +kernel)) (hts (.static arraycopyName) (by decide +kernel)) (hts (.initialized "java/lang/System") (by decide +kernel)) hK hP hD hS 9 9 0 rfl rfl rfl (sp := 0) (dp := 1) (n := L3.length) (by decide) (by decide) (by omega) (by omega) (by omega) (Nat.le_of_ble_eq_true rfl) (Nat.le_of_ble_eq_true rfl) dX3_toFront_20 (fun H_1 locs hP1 hD1 hS1 => ?_)
  clear hP hD hS
  have hP : va_P G vwCl [(mo, .inr (3, [.int th, .ref rr, .ref si, .ref nb, .ref ak, .ref ha])), (rr, .inl (cR, 7, .inr (.inr (.inr (.inr (RW [b0, b1, b2, b3, b4, b5, b6])))))), (si, .inl (cI, 7, .inl (D 0))), (nb, .inl (cI, 6, .inl (D 1))), (ak, .inl (cI, 30, .inl (D 2))), (ha, .inl (cI, 30, .inl (D 3))), (b0, .inl (cI, 31, .inl (D 4))), (b1, .inl (cI, 31, .inl (D 5))), (b2, .inl (cI, 31, .inl (D 6))), (b3, .inl (cI, 31, .inl (va_cpy (D 7) (D 7) 0 1 L3.length))), (b4, .inl (cI, 31, .inl (D 8))), (b5, .inl (cI, 31, .inl (D 9))), (b6, .inl (cI, 31, .inl (D 10)))] H_1 := hP1
  have hD : va_D A [(mo, .inr (3, [.int th, .ref rr, .ref si, .ref nb, .ref ak, .ref ha])), (rr, .inl (cR, 7, .inr (.inr (.inr (.inr (RW [b0, b1, b2, b3, b4, b5, b6])))))), (si, .inl (cI, 7, .inl (D 0))), (nb, .inl (cI, 6, .inl (D 1))), (ak, .inl (cI, 30, .inl (D 2))), (ha, .inl (cI, 30, .inl (D 3))), (b0, .inl (cI, 31, .inl (D 4))), (b1, .inl (cI, 31, .inl (D 5))), (b2, .inl (cI, 31, .inl (D 6))), (b3, .inl (cI, 31, .inl (va_cpy (D 7) (D 7) 0 1 L3.length))), (b4, .inl (cI, 31, .inl (D 8))), (b5, .inl (cI, 31, .inl (D 9))), (b6, .inl (cI, 31, .inl (D 10)))] := hD1
  have hS := hS1
  clear hP1 hD1 hS1
  refine lv_aload_n hx hb dX3_toFront_23 rfl (lv_at hl 0 rfl) ?_
  refine va_get (D := G) (ci := 3) (v := .ref rr) (C := RX3) (T := TX3) (N := 6) hx hb hts iX3_toFront_X3 hown hK hP 0 rfl rfl 1 (by decide) (hts (.fieldLink RX3 11 "GhostPantryModel" "rows" "[[I") (by decide +kernel)) (fun _ h9 => h9) rfl dX3_toFront_24 ?_
  refine lv_iload_n hx hb dX3_toFront_27 rfl (lv_at hl 1 rfl) ?_
  refine g_aald hx hb hK hP 1 1 rfl rfl (i := 3) (by decide) (by decide) dX3_toFront_28 (b := b3) (rfl) ?_
  refine lv_iconst (v := (nI 0)) hx hb dX3_toFront_29 (by decide +kernel) ?_
  refine lv_iload_n hx hb dX3_toFront_30 rfl (lv_at hl 2 rfl) ?_
  refine g_iast hx hb hK hP hD hS 9 0 rfl rfl (i := 0) (x := jar) (by decide) (by decide) dX3_toFront_31 (fun H_2 locs hP1 hD1 hS1 => ?_)
  clear hP hD hS
  have hP : va_P G vwCl [(mo, .inr (3, [.int th, .ref rr, .ref si, .ref nb, .ref ak, .ref ha])), (rr, .inl (cR, 7, .inr (.inr (.inr (.inr (RW [b0, b1, b2, b3, b4, b5, b6])))))), (si, .inl (cI, 7, .inl (D 0))), (nb, .inl (cI, 6, .inl (D 1))), (ak, .inl (cI, 30, .inl (D 2))), (ha, .inl (cI, 30, .inl (D 3))), (b0, .inl (cI, 31, .inl (D 4))), (b1, .inl (cI, 31, .inl (D 5))), (b2, .inl (cI, 31, .inl (D 6))), (b3, .inl (cI, 31, .inl (upd (va_cpy (D 7) (D 7) 0 1 L3.length) 0 jar))), (b4, .inl (cI, 31, .inl (D 8))), (b5, .inl (cI, 31, .inl (D 9))), (b6, .inl (cI, 31, .inl (D 10)))] H_2 := hP1
  have hD : va_D A [(mo, .inr (3, [.int th, .ref rr, .ref si, .ref nb, .ref ak, .ref ha])), (rr, .inl (cR, 7, .inr (.inr (.inr (.inr (RW [b0, b1, b2, b3, b4, b5, b6])))))), (si, .inl (cI, 7, .inl (D 0))), (nb, .inl (cI, 6, .inl (D 1))), (ak, .inl (cI, 30, .inl (D 2))), (ha, .inl (cI, 30, .inl (D 3))), (b0, .inl (cI, 31, .inl (D 4))), (b1, .inl (cI, 31, .inl (D 5))), (b2, .inl (cI, 31, .inl (D 6))), (b3, .inl (cI, 31, .inl (upd (va_cpy (D 7) (D 7) 0 1 L3.length) 0 jar))), (b4, .inl (cI, 31, .inl (D 8))), (b5, .inl (cI, 31, .inl (D 9))), (b6, .inl (cI, 31, .inl (D 10)))] := hD1
  have hS := hS1
  clear hP1 hD1 hS1
  refine lv_aload_n hx hb dX3_toFront_32 rfl (lv_at hl 0 rfl) ?_
  refine va_get (D := G) (ci := 3) (v := .ref si) (C := RX3) (T := TX3) (N := 6) hx hb hts iX3_toFront_X3 hown hK hP 0 rfl rfl 2 (by decide) (hts (.fieldLink RX3 14 "GhostPantryModel" "sizes" "[I") (by decide +kernel)) (fun _ h9 => h9) rfl dX3_toFront_33 ?_
  refine lv_iload_n hx hb dX3_toFront_36 rfl (lv_at hl 1 rfl) ?_
  refine lv_dup2_11 hx hb dX3_toFront_37 rfl rfl ?_
  refine g_iald hx hb hK hP 2 0 rfl rfl (i := 3) (by decide) (by decide) dX3_toFront_38 (v := (nI L3.length)) (hM.2.2.2.2.2.2.2.2.1) ?_
  refine lv_iconst (v := (nI 1)) hx hb dX3_toFront_39 (by decide +kernel) ?_
  refine g_iadd hx hb dX3_toFront_40 ?_
  refine g_iast hx hb hK hP hD hS 2 0 rfl rfl (i := 3) (x := (nI (L3.length + 1))) (by decide) (by decide) dX3_toFront_41 (fun H_3 locs hP1 hD1 hS1 => ?_)
  clear hP hD hS
  have hP : va_P G vwCl [(mo, .inr (3, [.int th, .ref rr, .ref si, .ref nb, .ref ak, .ref ha])), (rr, .inl (cR, 7, .inr (.inr (.inr (.inr (RW [b0, b1, b2, b3, b4, b5, b6])))))), (si, .inl (cI, 7, .inl (upd (D 0) 3 (nI (L3.length + 1))))), (nb, .inl (cI, 6, .inl (D 1))), (ak, .inl (cI, 30, .inl (D 2))), (ha, .inl (cI, 30, .inl (D 3))), (b0, .inl (cI, 31, .inl (D 4))), (b1, .inl (cI, 31, .inl (D 5))), (b2, .inl (cI, 31, .inl (D 6))), (b3, .inl (cI, 31, .inl (upd (va_cpy (D 7) (D 7) 0 1 L3.length) 0 jar))), (b4, .inl (cI, 31, .inl (D 8))), (b5, .inl (cI, 31, .inl (D 9))), (b6, .inl (cI, 31, .inl (D 10)))] H_3 := hP1
  have hD : va_D A [(mo, .inr (3, [.int th, .ref rr, .ref si, .ref nb, .ref ak, .ref ha])), (rr, .inl (cR, 7, .inr (.inr (.inr (.inr (RW [b0, b1, b2, b3, b4, b5, b6])))))), (si, .inl (cI, 7, .inl (upd (D 0) 3 (nI (L3.length + 1))))), (nb, .inl (cI, 6, .inl (D 1))), (ak, .inl (cI, 30, .inl (D 2))), (ha, .inl (cI, 30, .inl (D 3))), (b0, .inl (cI, 31, .inl (D 4))), (b1, .inl (cI, 31, .inl (D 5))), (b2, .inl (cI, 31, .inl (D 6))), (b3, .inl (cI, 31, .inl (upd (va_cpy (D 7) (D 7) 0 1 L3.length) 0 jar))), (b4, .inl (cI, 31, .inl (D 8))), (b5, .inl (cI, 31, .inl (D 9))), (b6, .inl (cI, 31, .inl (D 10)))] := hD1
  have hS := hS1
  clear hP1 hD1 hS1
  have hP9 := hP.sub (ws' := [(mo, .inr (3, [.int th, .ref rr, .ref si, .ref nb, .ref ak, .ref ha])), (rr, .inl (cR, 7, .inr (.inr (.inr (.inr (RW [b0, b1, b2, b3, b4, b5, b6])))))), (si, .inl (cI, 7, .inl (upd (D 0) 3 (nI (L3.length + 1))))), (nb, .inl (cI, 6, .inl (D 1))), (ak, .inl (cI, 30, .inl (D 2))), (ha, .inl (cI, 30, .inl (D 3))), (b0, .inl (cI, 31, .inl (D 4))), (b1, .inl (cI, 31, .inl (D 5))), (b2, .inl (cI, 31, .inl (D 6))), (b3, .inl (cI, 31, .inl (upd (va_cpy (D 7) (D 7) 0 1 L3.length) 0 jar))), (b4, .inl (cI, 31, .inl (D 8))), (b5, .inl (cI, 31, .inl (D 9))), (b6, .inl (cI, 31, .inl (D 10)))]) [0, 1, 2, 3, 4, 5, 6, 7, 8, 9, 10, 11, 12] rfl
  have hD9 := hD.sub (ws' := [(mo, .inr (3, [.int th, .ref rr, .ref si, .ref nb, .ref ak, .ref ha])), (rr, .inl (cR, 7, .inr (.inr (.inr (.inr (RW [b0, b1, b2, b3, b4, b5, b6])))))), (si, .inl (cI, 7, .inl (upd (D 0) 3 (nI (L3.length + 1))))), (nb, .inl (cI, 6, .inl (D 1))), (ak, .inl (cI, 30, .inl (D 2))), (ha, .inl (cI, 30, .inl (D 3))), (b0, .inl (cI, 31, .inl (D 4))), (b1, .inl (cI, 31, .inl (D 5))), (b2, .inl (cI, 31, .inl (D 6))), (b3, .inl (cI, 31, .inl (upd (va_cpy (D 7) (D 7) 0 1 L3.length) 0 jar))), (b4, .inl (cI, 31, .inl (D 8))), (b5, .inl (cI, 31, .inl (D 9))), (b6, .inl (cI, 31, .inl (D 10)))]) [0, 1, 2, 3, 4, 5, 6, 7, 8, 9, 10, 11, 12] (by decide) rfl
  exact W.vret hx hb hr (fun t ht hW => ⟨⟨(), rfl, trivial, (dat (upd (D 0) 3 (nI (L3.length + 1))) (D 1) (D 2) (D 3) (D 4) (D 5) (D 6) (upd (va_cpy (D 7) (D 7) 0 1 L3.length) 0 jar) (D 8) (D 9) (D 10)), ⟨hM.1, hM.2.1, (Rw_cons jar hM.2.2.1), hM.2.2.2.1, hM.2.2.2.2.1, hM.2.2.2.2.2.1, hM.2.2.2.2.2.2.1, hM.2.2.2.2.2.2.2.1, rfl, hM.2.2.2.2.2.2.2.2.2.1, hM.2.2.2.2.2.2.2.2.2.2.1, hM.2.2.2.2.2.2.2.2.2.2.2.1, hM.2.2.2.2.2.2.2.2.2.2.2.2.1, hM.2.2.2.2.2.2.2.2.2.2.2.2.2.1, hM.2.2.2.2.2.2.2.2.2.2.2.2.2.2.1, hM.2.2.2.2.2.2.2.2.2.2.2.2.2.2.2.1, hM.2.2.2.2.2.2.2.2.2.2.2.2.2.2.2.2.1, hM.2.2.2.2.2.2.2.2.2.2.2.2.2.2.2.2.2.1, hM.2.2.2.2.2.2.2.2.2.2.2.2.2.2.2.2.2.2.1, hM.2.2.2.2.2.2.2.2.2.2.2.2.2.2.2.2.2.2.2⟩, g_at hP9 hK hD9 ht hW⟩, hS.F ht⟩) hS.2.2 dX3_toFront_42

set_option maxHeartbeats 4000000 in
set_option maxRecDepth 100000 in
theorem c_X3_takeOut_3 (l : Launch) (G : va_G) (cI cR : ClassId) (mo rr si nb ak ha b0 b1 b2 b3 b4 b5 b6 : Nat) (th : Int32) (D : Nat → Nat → Int32) (L1 L2 L3 L4 P M : List Int32) (rc bo : Nat) (nA nH nP nM : Int32) (KA TA : Nat → Int32) (hM : MOK D rc M ((L1, L2, L3, L4), P, bo, nA, nH, nP, nM, KA, TA)) (pl : Nat) (hp : pl < L3.length) (h30 : L3.length ≤ 30) (sz : Nat) : Met l yX3_takeOut wsX3_takeOut ({ frames := 1, cells := 0, slots := 0, locals := 18 }) (va_Pc [.ref mo, .int (nI 3), .int (nI pl)] (gpre G [(cI, .int), (cR, .array .int)] [(mo, .inr (3, [.int th, .ref rr, .ref si, .ref nb, .ref ak, .ref ha])), (rr, .inl (cR, 7, .inr (.inr (.inr (.inr (RW [b0, b1, b2, b3, b4, b5, b6])))))), (si, .inl (cI, 7, .inl (D 0))), (nb, .inl (cI, 6, .inl (D 1))), (ak, .inl (cI, 30, .inl (D 2))), (ha, .inl (cI, 30, .inl (D 3))), (b0, .inl (cI, 31, .inl (D 4))), (b1, .inl (cI, 31, .inl (D 5))), (b2, .inl (cI, 31, .inl (D 6))), (b3, .inl (cI, 31, .inl (D 7))), (b4, .inl (cI, 31, .inl (D 8))), (b5, .inl (cI, 31, .inl (D 9))), (b6, .inl (cI, 31, .inl (D 10)))] sz)) (va_Qv (fun (_ : Unit) => True) (fun (_ : Unit) t => ∃ D' : Nat → Nat → Int32, MOK D' rc M ((L1, L2, (L3.eraseIdx pl), L4), P, bo, nA, nH, nP, nM, KA, TA) ∧ gat G [(cI, .int), (cR, .array .int)] (va_A [(mo, .inr (3, [.int th, .ref rr, .ref si, .ref nb, .ref ak, .ref ha])), (rr, .inl (cR, 7, .inr (.inr (.inr (.inr (RW [b0, b1, b2, b3, b4, b5, b6])))))), (si, .inl (cI, 7, .inl (D 0))), (nb, .inl (cI, 6, .inl (D 1))), (ak, .inl (cI, 30, .inl (D 2))), (ha, .inl (cI, 30, .inl (D 3))), (b0, .inl (cI, 31, .inl (D 4))), (b1, .inl (cI, 31, .inl (D 5))), (b2, .inl (cI, 31, .inl (D 6))), (b3, .inl (cI, 31, .inl (D 7))), (b4, .inl (cI, 31, .inl (D 8))), (b5, .inl (cI, 31, .inl (D 9))), (b6, .inl (cI, 31, .inl (D 10)))] sz) [(mo, .inr (3, [.int th, .ref rr, .ref si, .ref nb, .ref ak, .ref ha])), (rr, .inl (cR, 7, .inr (.inr (.inr (.inr (RW [b0, b1, b2, b3, b4, b5, b6])))))), (si, .inl (cI, 7, .inl (D' 0))), (nb, .inl (cI, 6, .inl (D' 1))), (ak, .inl (cI, 30, .inl (D' 2))), (ha, .inl (cI, 30, .inl (D' 3))), (b0, .inl (cI, 31, .inl (D' 4))), (b1, .inl (cI, 31, .inl (D' 5))), (b2, .inl (cI, 31, .inl (D' 6))), (b3, .inl (cI, 31, .inl (D' 7))), (b4, .inl (cI, 31, .inl (D' 8))), (b5, .inl (cI, 31, .inl (D' 9))), (b6, .inl (cI, 31, .inl (D' 10)))] t) (va_A [(mo, .inr (3, [.int th, .ref rr, .ref si, .ref nb, .ref ak, .ref ha])), (rr, .inl (cR, 7, .inr (.inr (.inr (.inr (RW [b0, b1, b2, b3, b4, b5, b6])))))), (si, .inl (cI, 7, .inl (D 0))), (nb, .inl (cI, 6, .inl (D 1))), (ak, .inl (cI, 30, .inl (D 2))), (ha, .inl (cI, 30, .inl (D 3))), (b0, .inl (cI, 31, .inl (D 4))), (b1, .inl (cI, 31, .inl (D 5))), (b2, .inl (cI, 31, .inl (D 6))), (b3, .inl (cI, 31, .inl (D 7))), (b4, .inl (cI, 31, .inl (D 8))), (b5, .inl (cI, 31, .inl (D 9))), (b6, .inl (cI, 31, .inl (D 10)))] sz)) 0 0 (va_A [(mo, .inr (3, [.int th, .ref rr, .ref si, .ref nb, .ref ak, .ref ha])), (rr, .inl (cR, 7, .inr (.inr (.inr (.inr (RW [b0, b1, b2, b3, b4, b5, b6])))))), (si, .inl (cI, 7, .inl (D 0))), (nb, .inl (cI, 6, .inl (D 1))), (ak, .inl (cI, 30, .inl (D 2))), (ha, .inl (cI, 30, .inl (D 3))), (b0, .inl (cI, 31, .inl (D 4))), (b1, .inl (cI, 31, .inl (D 5))), (b2, .inl (cI, 31, .inl (D 6))), (b3, .inl (cI, 31, .inl (D 7))), (b4, .inl (cI, 31, .inl (D 8))), (b5, .inl (cI, 31, .inl (D 9))), (b6, .inl (cI, 31, .inl (D 10)))] sz) := by
  refine Met.ofW (cc := cX3_takeOut) (maxL := 3) (ret := none) (by decide) rfl ?_
  intro p e s m args below meth c s₁ B hml hv
  obtain ⟨rfl, hsz, hP, hK, hD0⟩ := hv
  have hx := B.exec
  have hb := B.bytes
  have hr := B.returns
  have hts := atoms_spec (ws := wsX3_takeOut) B.pre
  have hown : s.vm.findClass RX3 = some m.cls := findClass_of_methodNamed B.named
  have hlocks := B.notSynchronized
  subst hsz
  have hD := hD0.self (sz := s.heap.size)
  clear hD0
  generalize hAe : va_A [(mo, .inr (3, [.int th, .ref rr, .ref si, .ref nb, .ref ak, .ref ha])), (rr, .inl (cR, 7, .inr (.inr (.inr (.inr (RW [b0, b1, b2, b3, b4, b5, b6])))))), (si, .inl (cI, 7, .inl (D 0))), (nb, .inl (cI, 6, .inl (D 1))), (ak, .inl (cI, 30, .inl (D 2))), (ha, .inl (cI, 30, .inl (D 3))), (b0, .inl (cI, 31, .inl (D 4))), (b1, .inl (cI, 31, .inl (D 5))), (b2, .inl (cI, 31, .inl (D 6))), (b3, .inl (cI, 31, .inl (D 7))), (b4, .inl (cI, 31, .inl (D 8))), (b5, .inl (cI, 31, .inl (D 9))), (b6, .inl (cI, 31, .inl (D 10)))] s.heap.size = A at hD ⊢
  have hA : ∀ q : Nat, s.heap.size ≤ q → A q := fun q h => by rw [← hAe]; exact Or.inr h
  have hS : va_S A s.heap s.heap [] := va_S.rf
  have hP : va_P G vwCl [(mo, .inr (3, [.int th, .ref rr, .ref si, .ref nb, .ref ak, .ref ha])), (rr, .inl (cR, 7, .inr (.inr (.inr (.inr (RW [b0, b1, b2, b3, b4, b5, b6])))))), (si, .inl (cI, 7, .inl (D 0))), (nb, .inl (cI, 6, .inl (D 1))), (ak, .inl (cI, 30, .inl (D 2))), (ha, .inl (cI, 30, .inl (D 3))), (b0, .inl (cI, 31, .inl (D 4))), (b1, .inl (cI, 31, .inl (D 5))), (b2, .inl (cI, 31, .inl (D 6))), (b3, .inl (cI, 31, .inl (D 7))), (b4, .inl (cI, 31, .inl (D 8))), (b5, .inl (cI, 31, .inl (D 9))), (b6, .inl (cI, 31, .inl (D 10)))] s.heap := hP
  have hl := lv_entry ([.ref mo, .int (nI 3), .int (nI pl)]) (n := 3) (Nat.le_of_ble_eq_true rfl)
  rw [lg_entry_eq]
  generalize (lg_sl ([.ref mo, .int (nI 3), .int (nI pl)]) ++ List.replicate (3 - (lg_sl ([.ref mo, .int (nI 3), .int (nI pl)])).length) Slot.unset).toArray = ls at hl ⊢
  have hl : lv_has ls 3 [(0, .ref mo), (1, .int (nI 3)), (2, .int (nI pl))] := hl
  refine lv_aload_n hx hb dX3_takeOut_0 rfl (lv_at hl 0 rfl) ?_
  refine va_get (D := G) (ci := 3) (v := .ref si) (C := RX3) (T := TX3) (N := 6) hx hb hts iX3_takeOut_X3 hown hK hP 0 rfl rfl 2 (by decide) (hts (.fieldLink RX3 14 "GhostPantryModel" "sizes" "[I") (by decide +kernel)) (fun _ h9 => h9) rfl dX3_takeOut_1 ?_
  refine lv_iload_n hx hb dX3_takeOut_4 rfl (lv_at hl 1 rfl) ?_
  refine lv_dup2_11 hx hb dX3_takeOut_5 rfl rfl ?_
  refine g_iald hx hb hK hP 2 0 rfl rfl (i := 3) (by decide) (by decide) dX3_takeOut_6 (v := (nI L3.length)) (hM.2.2.2.2.2.2.2.2.1) ?_
  refine lv_iconst (v := (nI 1)) hx hb dX3_takeOut_7 (by decide +kernel) ?_
  refine g_isub hx hb dX3_takeOut_8 (by omega) ?_
  refine g_iast hx hb hK hP hD hS 2 0 rfl rfl (i := 3) (x := (nI (L3.length - 1))) (by decide) (by decide) dX3_takeOut_9 (fun H_1 locs hP1 hD1 hS1 => ?_)
  clear hP hD hS
  have hP : va_P G vwCl [(mo, .inr (3, [.int th, .ref rr, .ref si, .ref nb, .ref ak, .ref ha])), (rr, .inl (cR, 7, .inr (.inr (.inr (.inr (RW [b0, b1, b2, b3, b4, b5, b6])))))), (si, .inl (cI, 7, .inl (upd (D 0) 3 (nI (L3.length - 1))))), (nb, .inl (cI, 6, .inl (D 1))), (ak, .inl (cI, 30, .inl (D 2))), (ha, .inl (cI, 30, .inl (D 3))), (b0, .inl (cI, 31, .inl (D 4))), (b1, .inl (cI, 31, .inl (D 5))), (b2, .inl (cI, 31, .inl (D 6))), (b3, .inl (cI, 31, .inl (D 7))), (b4, .inl (cI, 31, .inl (D 8))), (b5, .inl (cI, 31, .inl (D 9))), (b6, .inl (cI, 31, .inl (D 10)))] H_1 := hP1
  have hD : va_D A [(mo, .inr (3, [.int th, .ref rr, .ref si, .ref nb, .ref ak, .ref ha])), (rr, .inl (cR, 7, .inr (.inr (.inr (.inr (RW [b0, b1, b2, b3, b4, b5, b6])))))), (si, .inl (cI, 7, .inl (upd (D 0) 3 (nI (L3.length - 1))))), (nb, .inl (cI, 6, .inl (D 1))), (ak, .inl (cI, 30, .inl (D 2))), (ha, .inl (cI, 30, .inl (D 3))), (b0, .inl (cI, 31, .inl (D 4))), (b1, .inl (cI, 31, .inl (D 5))), (b2, .inl (cI, 31, .inl (D 6))), (b3, .inl (cI, 31, .inl (D 7))), (b4, .inl (cI, 31, .inl (D 8))), (b5, .inl (cI, 31, .inl (D 9))), (b6, .inl (cI, 31, .inl (D 10)))] := hD1
  have hS := hS1
  clear hP1 hD1 hS1
  refine lv_aload_n hx hb dX3_takeOut_10 rfl (lv_at hl 0 rfl) ?_
  refine va_get (D := G) (ci := 3) (v := .ref rr) (C := RX3) (T := TX3) (N := 6) hx hb hts iX3_takeOut_X3 hown hK hP 0 rfl rfl 1 (by decide) (hts (.fieldLink RX3 11 "GhostPantryModel" "rows" "[[I") (by decide +kernel)) (fun _ h9 => h9) rfl dX3_takeOut_11 ?_
  refine lv_iload_n hx hb dX3_takeOut_14 rfl (lv_at hl 1 rfl) ?_
  refine g_aald hx hb hK hP 1 1 rfl rfl (i := 3) (by decide) (by decide) dX3_takeOut_15 (b := b3) (rfl) ?_
  refine lv_iload_n hx hb dX3_takeOut_16 rfl (lv_at hl 2 rfl) ?_
  refine lv_iconst (v := (nI 1)) hx hb dX3_takeOut_17 (by decide +kernel) ?_
  refine g_iadd hx hb dX3_takeOut_18 ?_
  refine lv_aload_n hx hb dX3_takeOut_19 rfl (lv_at hl 0 rfl) ?_
  refine va_get (D := G) (ci := 3) (v := .ref rr) (C := RX3) (T := TX3) (N := 6) hx hb hts iX3_takeOut_X3 hown hK hP 0 rfl rfl 1 (by decide) (hts (.fieldLink RX3 11 "GhostPantryModel" "rows" "[[I") (by decide +kernel)) (fun _ h9 => h9) rfl dX3_takeOut_20 ?_
  refine lv_iload_n hx hb dX3_takeOut_23 rfl (lv_at hl 1 rfl) ?_
  refine g_aald hx hb hK hP 1 1 rfl rfl (i := 3) (by decide) (by decide) dX3_takeOut_24 (b := b3) (rfl) ?_
  refine lv_iload_n hx hb dX3_takeOut_25 rfl (lv_at hl 2 rfl) ?_
  refine lv_aload_n hx hb dX3_takeOut_26 rfl (lv_at hl 0 rfl) ?_
  refine va_get (D := G) (ci := 3) (v := .ref si) (C := RX3) (T := TX3) (N := 6) hx hb hts iX3_takeOut_X3 hown hK hP 0 rfl rfl 2 (by decide) (hts (.fieldLink RX3 14 "GhostPantryModel" "sizes" "[I") (by decide +kernel)) (fun _ h9 => h9) rfl dX3_takeOut_27 ?_
  refine lv_iload_n hx hb dX3_takeOut_30 rfl (lv_at hl 1 rfl) ?_
  refine g_iald hx hb hK hP 2 0 rfl rfl (i := 3) (by decide) (by decide) dX3_takeOut_31 (v := (nI (L3.length - 1))) (rfl) ?_
  refine lv_iload_n hx hb dX3_takeOut_32 rfl (lv_at hl 2 rfl) ?_
  refine g_isub hx hb dX3_takeOut_33 (by omega) ?_
  refine g_copyi hx hb (hml.trans hl.1.symm) hown (hts (.methodLink RX3 39 arraycopyName) (by decide +kernel)) (hts (.native arraycopyName) (by decide +kernel)) (hts (.static arraycopyName) (by decide +kernel)) (hts (.initialized "java/lang/System") (by decide +kernel)) hK hP hD hS 9 9 0 rfl rfl rfl (sp := (pl + 1)) (dp := pl) (n := ((L3.length - 1) - pl)) (by omega) (by omega) (by omega) (by omega) (by omega) (Nat.le_of_ble_eq_true rfl) (Nat.le_of_ble_eq_true rfl) dX3_takeOut_34 (fun H_2 locs hP1 hD1 hS1 => ?_)
  clear hP hD hS
  have hP : va_P G vwCl [(mo, .inr (3, [.int th, .ref rr, .ref si, .ref nb, .ref ak, .ref ha])), (rr, .inl (cR, 7, .inr (.inr (.inr (.inr (RW [b0, b1, b2, b3, b4, b5, b6])))))), (si, .inl (cI, 7, .inl (upd (D 0) 3 (nI (L3.length - 1))))), (nb, .inl (cI, 6, .inl (D 1))), (ak, .inl (cI, 30, .inl (D 2))), (ha, .inl (cI, 30, .inl (D 3))), (b0, .inl (cI, 31, .inl (D 4))), (b1, .inl (cI, 31, .inl (D 5))), (b2, .inl (cI, 31, .inl (D 6))), (b3, .inl (cI, 31, .inl (va_cpy (D 7) (D 7) (pl + 1) pl ((L3.length - 1) - pl)))), (b4, .inl (cI, 31, .inl (D 8))), (b5, .inl (cI, 31, .inl (D 9))), (b6, .inl (cI, 31, .inl (D 10)))] H_2 := hP1
  have hD : va_D A [(mo, .inr (3, [.int th, .ref rr, .ref si, .ref nb, .ref ak, .ref ha])), (rr, .inl (cR, 7, .inr (.inr (.inr (.inr (RW [b0, b1, b2, b3, b4, b5, b6])))))), (si, .inl (cI, 7, .inl (upd (D 0) 3 (nI (L3.length - 1))))), (nb, .inl (cI, 6, .inl (D 1))), (ak, .inl (cI, 30, .inl (D 2))), (ha, .inl (cI, 30, .inl (D 3))), (b0, .inl (cI, 31, .inl (D 4))), (b1, .inl (cI, 31, .inl (D 5))), (b2, .inl (cI, 31, .inl (D 6))), (b3, .inl (cI, 31, .inl (va_cpy (D 7) (D 7) (pl + 1) pl ((L3.length - 1) - pl)))), (b4, .inl (cI, 31, .inl (D 8))), (b5, .inl (cI, 31, .inl (D 9))), (b6, .inl (cI, 31, .inl (D 10)))] := hD1
  have hS := hS1
  clear hP1 hD1 hS1
  have hP9 := hP.sub (ws' := [(mo, .inr (3, [.int th, .ref rr, .ref si, .ref nb, .ref ak, .ref ha])), (rr, .inl (cR, 7, .inr (.inr (.inr (.inr (RW [b0, b1, b2, b3, b4, b5, b6])))))), (si, .inl (cI, 7, .inl (upd (D 0) 3 (nI (L3.length - 1))))), (nb, .inl (cI, 6, .inl (D 1))), (ak, .inl (cI, 30, .inl (D 2))), (ha, .inl (cI, 30, .inl (D 3))), (b0, .inl (cI, 31, .inl (D 4))), (b1, .inl (cI, 31, .inl (D 5))), (b2, .inl (cI, 31, .inl (D 6))), (b3, .inl (cI, 31, .inl (va_cpy (D 7) (D 7) (pl + 1) pl ((L3.length - 1) - pl)))), (b4, .inl (cI, 31, .inl (D 8))), (b5, .inl (cI, 31, .inl (D 9))), (b6, .inl (cI, 31, .inl (D 10)))]) [0, 1, 2, 3, 4, 5, 6, 7, 8, 9, 10, 11, 12] rfl
  have hD9 := hD.sub (ws' := [(mo, .inr (3, [.int th, .ref rr, .ref si, .ref nb, .ref ak, .ref ha])), (rr, .inl (cR, 7, .inr (.inr (.inr (.inr (RW [b0, b1, b2, b3, b4, b5, b6])))))), (si, .inl (cI, 7, .inl (upd (D 0) 3 (nI (L3.length - 1))))), (nb, .inl (cI, 6, .inl (D 1))), (ak, .inl (cI, 30, .inl (D 2))), (ha, .inl (cI, 30, .inl (D 3))), (b0, .inl (cI, 31, .inl (D 4))), (b1, .inl (cI, 31, .inl (D 5))), (b2, .inl (cI, 31, .inl (D 6))), (b3, .inl (cI, 31, .inl (va_cpy (D 7) (D 7) (pl + 1) pl ((L3.length - 1) - pl)))), (b4, .inl (cI, 31, .inl (D 8))), (b5, .inl (cI, 31, .inl (D 9))), (b6, .inl (cI, 31, .inl (D 10)))]) [0, 1, 2, 3, 4, 5, 6, 7, 8, 9, 10, 11, 12] (by decide) rfl
  exact W.vret hx hb hr (fun t ht hW => ⟨⟨(), rfl, trivial, (dat (upd (D 0) 3 (nI (L3.length - 1))) (D 1) (D 2) (D 3) (D 4) (D 5) (D 6) (va_cpy (D 7) (D 7) (pl + 1) pl ((L3.length - 1) - pl)) (D 8) (D 9) (D 10)), ⟨hM.1, hM.2.1, (Rw_erase2 hM.2.2.1 hp), hM.2.2.2.1, hM.2.2.2.2.1, hM.2.2.2.2.2.1, hM.2.2.2.2.2.2.1, hM.2.2.2.2.2.2.2.1, (congrArg nI (List.length_eraseIdx_of_lt hp).symm), hM.2.2.2.2.2.2.2.2.2.1, hM.2.2.2.2.2.2.2.2.2.2.1, hM.2.2.2.2.2.2.2.2.2.2.2.1, hM.2.2.2.2.2.2.2.2.2.2.2.2.1, hM.2.2.2.2.2.2.2.2.2.2.2.2.2.1, hM.2.2.2.2.2.2.2.2.2.2.2.2.2.2.1, hM.2.2.2.2.2.2.2.2.2.2.2.2.2.2.2.1, hM.2.2.2.2.2.2.2.2.2.2.2.2.2.2.2.2.1, hM.2.2.2.2.2.2.2.2.2.2.2.2.2.2.2.2.2.1, hM.2.2.2.2.2.2.2.2.2.2.2.2.2.2.2.2.2.2.1, hM.2.2.2.2.2.2.2.2.2.2.2.2.2.2.2.2.2.2.2⟩, g_at hP9 hK hD9 ht hW⟩, hS.F ht⟩) hS.2.2 dX3_takeOut_37

set_option maxHeartbeats 4000000 in
set_option maxRecDepth 100000 in
theorem c_X3_last_3 (l : Launch) (G : va_G) (cI cR : ClassId) (mo rr si nb ak ha b0 b1 b2 b3 b4 b5 b6 : Nat) (th : Int32) (D : Nat → Nat → Int32) (L1 L2 L3 L4 P M : List Int32) (rc bo : Nat) (nA nH nP nM : Int32) (KA TA : Nat → Int32) (hM : MOK D rc M ((L1, L2, L3, L4), P, bo, nA, nH, nP, nM, KA, TA)) (h0 : 0 < L3.length) (h30 : L3.length ≤ 30) (sz : Nat) : Met l yX3_last wsX3_last ({ frames := 0, cells := 0, slots := 0, locals := 0 }) (va_Pc [.ref mo, .int (nI 3)] (gpre G [(cI, .int), (cR, .array .int)] [(mo, .inr (3, [.int th, .ref rr, .ref si, .ref nb, .ref ak, .ref ha])), (rr, .inl (cR, 7, .inr (.inr (.inr (.inr (RW [b0, b1, b2, b3, b4, b5, b6])))))), (si, .inl (cI, 7, .inl (D 0))), (nb, .inl (cI, 6, .inl (D 1))), (ak, .inl (cI, 30, .inl (D 2))), (ha, .inl (cI, 30, .inl (D 3))), (b0, .inl (cI, 31, .inl (D 4))), (b1, .inl (cI, 31, .inl (D 5))), (b2, .inl (cI, 31, .inl (D 6))), (b3, .inl (cI, 31, .inl (D 7))), (b4, .inl (cI, 31, .inl (D 8))), (b5, .inl (cI, 31, .inl (D 9))), (b6, .inl (cI, 31, .inl (D 10)))] sz)) (va_Qi (fun (z : Int32) (_ : Unit) => z = lst L3) (fun (_ : Unit) t => ∃ D' : Nat → Nat → Int32, MOK D' rc M ((L1, L2, L3.dropLast, L4), P, bo, nA, nH, nP, nM, KA, TA) ∧ gat G [(cI, .int), (cR, .array .int)] (va_A [(mo, .inr (3, [.int th, .ref rr, .ref si, .ref nb, .ref ak, .ref ha])), (rr, .inl (cR, 7, .inr (.inr (.inr (.inr (RW [b0, b1, b2, b3, b4, b5, b6])))))), (si, .inl (cI, 7, .inl (D 0))), (nb, .inl (cI, 6, .inl (D 1))), (ak, .inl (cI, 30, .inl (D 2))), (ha, .inl (cI, 30, .inl (D 3))), (b0, .inl (cI, 31, .inl (D 4))), (b1, .inl (cI, 31, .inl (D 5))), (b2, .inl (cI, 31, .inl (D 6))), (b3, .inl (cI, 31, .inl (D 7))), (b4, .inl (cI, 31, .inl (D 8))), (b5, .inl (cI, 31, .inl (D 9))), (b6, .inl (cI, 31, .inl (D 10)))] sz) [(mo, .inr (3, [.int th, .ref rr, .ref si, .ref nb, .ref ak, .ref ha])), (rr, .inl (cR, 7, .inr (.inr (.inr (.inr (RW [b0, b1, b2, b3, b4, b5, b6])))))), (si, .inl (cI, 7, .inl (D' 0))), (nb, .inl (cI, 6, .inl (D' 1))), (ak, .inl (cI, 30, .inl (D' 2))), (ha, .inl (cI, 30, .inl (D' 3))), (b0, .inl (cI, 31, .inl (D' 4))), (b1, .inl (cI, 31, .inl (D' 5))), (b2, .inl (cI, 31, .inl (D' 6))), (b3, .inl (cI, 31, .inl (D' 7))), (b4, .inl (cI, 31, .inl (D' 8))), (b5, .inl (cI, 31, .inl (D' 9))), (b6, .inl (cI, 31, .inl (D' 10)))] t) (va_A [(mo, .inr (3, [.int th, .ref rr, .ref si, .ref nb, .ref ak, .ref ha])), (rr, .inl (cR, 7, .inr (.inr (.inr (.inr (RW [b0, b1, b2, b3, b4, b5, b6])))))), (si, .inl (cI, 7, .inl (D 0))), (nb, .inl (cI, 6, .inl (D 1))), (ak, .inl (cI, 30, .inl (D 2))), (ha, .inl (cI, 30, .inl (D 3))), (b0, .inl (cI, 31, .inl (D 4))), (b1, .inl (cI, 31, .inl (D 5))), (b2, .inl (cI, 31, .inl (D 6))), (b3, .inl (cI, 31, .inl (D 7))), (b4, .inl (cI, 31, .inl (D 8))), (b5, .inl (cI, 31, .inl (D 9))), (b6, .inl (cI, 31, .inl (D 10)))] sz)) 0 0 (va_A [(mo, .inr (3, [.int th, .ref rr, .ref si, .ref nb, .ref ak, .ref ha])), (rr, .inl (cR, 7, .inr (.inr (.inr (.inr (RW [b0, b1, b2, b3, b4, b5, b6])))))), (si, .inl (cI, 7, .inl (D 0))), (nb, .inl (cI, 6, .inl (D 1))), (ak, .inl (cI, 30, .inl (D 2))), (ha, .inl (cI, 30, .inl (D 3))), (b0, .inl (cI, 31, .inl (D 4))), (b1, .inl (cI, 31, .inl (D 5))), (b2, .inl (cI, 31, .inl (D 6))), (b3, .inl (cI, 31, .inl (D 7))), (b4, .inl (cI, 31, .inl (D 8))), (b5, .inl (cI, 31, .inl (D 9))), (b6, .inl (cI, 31, .inl (D 10)))] sz) := by
  refine Met.ofW (cc := cX3_last) (maxL := 2) (ret := (some .int)) (by decide) rfl ?_
  intro p e s m args below meth c s₁ B hml hv
  obtain ⟨rfl, hsz, hP, hK, hD0⟩ := hv
  have hx := B.exec
  have hb := B.bytes
  have hr := B.returns
  have hts := atoms_spec (ws := wsX3_last) B.pre
  have hown : s.vm.findClass RX3 = some m.cls := findClass_of_methodNamed B.named
  have hlocks := B.notSynchronized
  subst hsz
  have hD := hD0.self (sz := s.heap.size)
  clear hD0
  generalize hAe : va_A [(mo, .inr (3, [.int th, .ref rr, .ref si, .ref nb, .ref ak, .ref ha])), (rr, .inl (cR, 7, .inr (.inr (.inr (.inr (RW [b0, b1, b2, b3, b4, b5, b6])))))), (si, .inl (cI, 7, .inl (D 0))), (nb, .inl (cI, 6, .inl (D 1))), (ak, .inl (cI, 30, .inl (D 2))), (ha, .inl (cI, 30, .inl (D 3))), (b0, .inl (cI, 31, .inl (D 4))), (b1, .inl (cI, 31, .inl (D 5))), (b2, .inl (cI, 31, .inl (D 6))), (b3, .inl (cI, 31, .inl (D 7))), (b4, .inl (cI, 31, .inl (D 8))), (b5, .inl (cI, 31, .inl (D 9))), (b6, .inl (cI, 31, .inl (D 10)))] s.heap.size = A at hD ⊢
  have hA : ∀ q : Nat, s.heap.size ≤ q → A q := fun q h => by rw [← hAe]; exact Or.inr h
  have hS : va_S A s.heap s.heap [] := va_S.rf
  have hP : va_P G vwCl [(mo, .inr (3, [.int th, .ref rr, .ref si, .ref nb, .ref ak, .ref ha])), (rr, .inl (cR, 7, .inr (.inr (.inr (.inr (RW [b0, b1, b2, b3, b4, b5, b6])))))), (si, .inl (cI, 7, .inl (D 0))), (nb, .inl (cI, 6, .inl (D 1))), (ak, .inl (cI, 30, .inl (D 2))), (ha, .inl (cI, 30, .inl (D 3))), (b0, .inl (cI, 31, .inl (D 4))), (b1, .inl (cI, 31, .inl (D 5))), (b2, .inl (cI, 31, .inl (D 6))), (b3, .inl (cI, 31, .inl (D 7))), (b4, .inl (cI, 31, .inl (D 8))), (b5, .inl (cI, 31, .inl (D 9))), (b6, .inl (cI, 31, .inl (D 10)))] s.heap := hP
  have hl := lv_entry ([.ref mo, .int (nI 3)]) (n := 2) (Nat.le_of_ble_eq_true rfl)
  rw [lg_entry_eq]
  generalize (lg_sl ([.ref mo, .int (nI 3)]) ++ List.replicate (2 - (lg_sl ([.ref mo, .int (nI 3)])).length) Slot.unset).toArray = ls at hl ⊢
  have hl : lv_has ls 2 [(0, .ref mo), (1, .int (nI 3))] := hl
  refine lv_aload_n hx hb dX3_last_0 rfl (lv_at hl 0 rfl) ?_
  refine va_get (D := G) (ci := 3) (v := .ref si) (C := RX3) (T := TX3) (N := 6) hx hb hts iX3_last_X3 hown hK hP 0 rfl rfl 2 (by decide) (hts (.fieldLink RX3 14 "GhostPantryModel" "sizes" "[I") (by decide +kernel)) (fun _ h9 => h9) rfl dX3_last_1 ?_
  refine lv_iload_n hx hb dX3_last_4 rfl (lv_at hl 1 rfl) ?_
  refine lv_dup2_11 hx hb dX3_last_5 rfl rfl ?_
  refine g_iald hx hb hK hP 2 0 rfl rfl (i := 3) (by decide) (by decide) dX3_last_6 (v := (nI L3.length)) (hM.2.2.2.2.2.2.2.2.1) ?_
  refine lv_iconst (v := (nI 1)) hx hb dX3_last_7 (by decide +kernel) ?_
  refine g_isub hx hb dX3_last_8 (by omega) ?_
  refine g_iast hx hb hK hP hD hS 2 0 rfl rfl (i := 3) (x := (nI (L3.length - 1))) (by decide) (by decide) dX3_last_9 (fun H_1 locs hP1 hD1 hS1 => ?_)
  clear hP hD hS
  have hP : va_P G vwCl [(mo, .inr (3, [.int th, .ref rr, .ref si, .ref nb, .ref ak, .ref ha])), (rr, .inl (cR, 7, .inr (.inr (.inr (.inr (RW [b0, b1, b2, b3, b4, b5, b6])))))), (si, .inl (cI, 7, .inl (upd (D 0) 3 (nI (L3.length - 1))))), (nb, .inl (cI, 6, .inl (D 1))), (ak, .inl (cI, 30, .inl (D 2))), (ha, .inl (cI, 30, .inl (D 3))), (b0, .inl (cI, 31, .inl (D 4))), (b1, .inl (cI, 31, .inl (D 5))), (b2, .inl (cI, 31, .inl (D 6))), (b3, .inl (cI, 31, .inl (D 7))), (b4, .inl (cI, 31, .inl (D 8))), (b5, .inl (cI, 31, .inl (D 9))), (b6, .inl (cI, 31, .inl (D 10)))] H_1 := hP1
  have hD : va_D A [(mo, .inr (3, [.int th, .ref rr, .ref si, .ref nb, .ref ak, .ref ha])), (rr, .inl (cR, 7, .inr (.inr (.inr (.inr (RW [b0, b1, b2, b3, b4, b5, b6])))))), (si, .inl (cI, 7, .inl (upd (D 0) 3 (nI (L3.length - 1))))), (nb, .inl (cI, 6, .inl (D 1))), (ak, .inl (cI, 30, .inl (D 2))), (ha, .inl (cI, 30, .inl (D 3))), (b0, .inl (cI, 31, .inl (D 4))), (b1, .inl (cI, 31, .inl (D 5))), (b2, .inl (cI, 31, .inl (D 6))), (b3, .inl (cI, 31, .inl (D 7))), (b4, .inl (cI, 31, .inl (D 8))), (b5, .inl (cI, 31, .inl (D 9))), (b6, .inl (cI, 31, .inl (D 10)))] := hD1
  have hS := hS1
  clear hP1 hD1 hS1
  refine lv_aload_n hx hb dX3_last_10 rfl (lv_at hl 0 rfl) ?_
  refine va_get (D := G) (ci := 3) (v := .ref rr) (C := RX3) (T := TX3) (N := 6) hx hb hts iX3_last_X3 hown hK hP 0 rfl rfl 1 (by decide) (hts (.fieldLink RX3 11 "GhostPantryModel" "rows" "[[I") (by decide +kernel)) (fun _ h9 => h9) rfl dX3_last_11 ?_
  refine lv_iload_n hx hb dX3_last_14 rfl (lv_at hl 1 rfl) ?_
  refine g_aald hx hb hK hP 1 1 rfl rfl (i := 3) (by decide) (by decide) dX3_last_15 (b := b3) (rfl) ?_
  refine lv_aload_n hx hb dX3_last_16 rfl (lv_at hl 0 rfl) ?_
  refine va_get (D := G) (ci := 3) (v := .ref si) (C := RX3) (T := TX3) (N := 6) hx hb hts iX3_last_X3 hown hK hP 0 rfl rfl 2 (by decide) (hts (.fieldLink RX3 14 "GhostPantryModel" "sizes" "[I") (by decide +kernel)) (fun _ h9 => h9) rfl dX3_last_17 ?_
  refine lv_iload_n hx hb dX3_last_20 rfl (lv_at hl 1 rfl) ?_
  refine g_iald hx hb hK hP 2 0 rfl rfl (i := 3) (by decide) (by decide) dX3_last_21 (v := (nI (L3.length - 1))) (rfl) ?_
  refine g_iald hx hb hK hP 9 0 rfl rfl (i := (L3.length - 1)) (by omega) (by decide) dX3_last_22 (v := (lst L3)) (Rw_lst hM.2.2.1 h0) ?_
  have hP9 := hP.sub (ws' := [(mo, .inr (3, [.int th, .ref rr, .ref si, .ref nb, .ref ak, .ref ha])), (rr, .inl (cR, 7, .inr (.inr (.inr (.inr (RW [b0, b1, b2, b3, b4, b5, b6])))))), (si, .inl (cI, 7, .inl (upd (D 0) 3 (nI (L3.length - 1))))), (nb, .inl (cI, 6, .inl (D 1))), (ak, .inl (cI, 30, .inl (D 2))), (ha, .inl (cI, 30, .inl (D 3))), (b0, .inl (cI, 31, .inl (D 4))), (b1, .inl (cI, 31, .inl (D 5))), (b2, .inl (cI, 31, .inl (D 6))), (b3, .inl (cI, 31, .inl (D 7))), (b4, .inl (cI, 31, .inl (D 8))), (b5, .inl (cI, 31, .inl (D 9))), (b6, .inl (cI, 31, .inl (D 10)))]) [0, 1, 2, 3, 4, 5, 6, 7, 8, 9, 10, 11, 12] rfl
  have hD9 := hD.sub (ws' := [(mo, .inr (3, [.int th, .ref rr, .ref si, .ref nb, .ref ak, .ref ha])), (rr, .inl (cR, 7, .inr (.inr (.inr (.inr (RW [b0, b1, b2, b3, b4, b5, b6])))))), (si, .inl (cI, 7, .inl (upd (D 0) 3 (nI (L3.length - 1))))), (nb, .inl (cI, 6, .inl (D 1))), (ak, .inl (cI, 30, .inl (D 2))), (ha, .inl (cI, 30, .inl (D 3))), (b0, .inl (cI, 31, .inl (D 4))), (b1, .inl (cI, 31, .inl (D 5))), (b2, .inl (cI, 31, .inl (D 6))), (b3, .inl (cI, 31, .inl (D 7))), (b4, .inl (cI, 31, .inl (D 8))), (b5, .inl (cI, 31, .inl (D 9))), (b6, .inl (cI, 31, .inl (D 10)))]) [0, 1, 2, 3, 4, 5, 6, 7, 8, 9, 10, 11, 12] (by decide) rfl
  exact W.iret (v := (lst L3)) hx hb hr (fun t ht hW => ⟨⟨(lst L3), (), rfl, rfl, (dat (upd (D 0) 3 (nI (L3.length - 1))) (D 1) (D 2) (D 3) (D 4) (D 5) (D 6) (D 7) (D 8) (D 9) (D 10)), ⟨hM.1, hM.2.1, (Rw_drop hM.2.2.1), hM.2.2.2.1, hM.2.2.2.2.1, hM.2.2.2.2.2.1, hM.2.2.2.2.2.2.1, hM.2.2.2.2.2.2.2.1, (congrArg nI List.length_dropLast.symm), hM.2.2.2.2.2.2.2.2.2.1, hM.2.2.2.2.2.2.2.2.2.2.1, hM.2.2.2.2.2.2.2.2.2.2.2.1, hM.2.2.2.2.2.2.2.2.2.2.2.2.1, hM.2.2.2.2.2.2.2.2.2.2.2.2.2.1, hM.2.2.2.2.2.2.2.2.2.2.2.2.2.2.1, hM.2.2.2.2.2.2.2.2.2.2.2.2.2.2.2.1, hM.2.2.2.2.2.2.2.2.2.2.2.2.2.2.2.2.1, hM.2.2.2.2.2.2.2.2.2.2.2.2.2.2.2.2.2.1, hM.2.2.2.2.2.2.2.2.2.2.2.2.2.2.2.2.2.2.1, hM.2.2.2.2.2.2.2.2.2.2.2.2.2.2.2.2.2.2.2⟩, g_at hP9 hK hD9 ht hW⟩, hS.F ht⟩) hS.2.2 dX3_last_23

set_option maxHeartbeats 4000000 in
set_option maxRecDepth 100000 in
theorem c_X3_toFront_4 (l : Launch) (G : va_G) (cI cR : ClassId) (mo rr si nb ak ha b0 b1 b2 b3 b4 b5 b6 : Nat) (th : Int32) (D : Nat → Nat → Int32) (L1 L2 L3 L4 P M : List Int32) (rc bo : Nat) (nA nH nP nM : Int32) (KA TA : Nat → Int32) (hM : MOK D rc M ((L1, L2, L3, L4), P, bo, nA, nH, nP, nM, KA, TA)) (jar : Int32) (h30 : L4.length ≤ 30) (sz : Nat) : Met l yX3_toFront wsX3_toFront ({ frames := 1, cells := 0, slots := 0, locals := 18 }) (va_Pc [.ref mo, .int (nI 4), .int jar] (gpre G [(cI, .int), (cR, .array .int)] [(mo, .inr (3, [.int th, .ref rr, .ref si, .ref nb, .ref ak, .ref ha])), (rr, .inl (cR, 7, .inr (.inr (.inr (.inr (RW [b0, b1, b2, b3, b4, b5, b6])))))), (si, .inl (cI, 7, .inl (D 0))), (nb, .inl (cI, 6, .inl (D 1))), (ak, .inl (cI, 30, .inl (D 2))), (ha, .inl (cI, 30, .inl (D 3))), (b0, .inl (cI, 31, .inl (D 4))), (b1, .inl (cI, 31, .inl (D 5))), (b2, .inl (cI, 31, .inl (D 6))), (b3, .inl (cI, 31, .inl (D 7))), (b4, .inl (cI, 31, .inl (D 8))), (b5, .inl (cI, 31, .inl (D 9))), (b6, .inl (cI, 31, .inl (D 10)))] sz)) (va_Qv (fun (_ : Unit) => True) (fun (_ : Unit) t => ∃ D' : Nat → Nat → Int32, MOK D' rc M ((L1, L2, L3, (jar :: L4)), P, bo, nA, nH, nP, nM, KA, TA) ∧ gat G [(cI, .int), (cR, .array .int)] (va_A [(mo, .inr (3, [.int th, .ref rr, .ref si, .ref nb, .ref ak, .ref ha])), (rr, .inl (cR, 7, .inr (.inr (.inr (.inr (RW [b0, b1, b2, b3, b4, b5, b6])))))), (si, .inl (cI, 7, .inl (D 0))), (nb, .inl (cI, 6, .inl (D 1))), (ak, .inl (cI, 30, .inl (D 2))), (ha, .inl (cI, 30, .inl (D 3))), (b0, .inl (cI, 31, .inl (D 4))), (b1, .inl (cI, 31, .inl (D 5))), (b2, .inl (cI, 31, .inl (D 6))), (b3, .inl (cI, 31, .inl (D 7))), (b4, .inl (cI, 31, .inl (D 8))), (b5, .inl (cI, 31, .inl (D 9))), (b6, .inl (cI, 31, .inl (D 10)))] sz) [(mo, .inr (3, [.int th, .ref rr, .ref si, .ref nb, .ref ak, .ref ha])), (rr, .inl (cR, 7, .inr (.inr (.inr (.inr (RW [b0, b1, b2, b3, b4, b5, b6])))))), (si, .inl (cI, 7, .inl (D' 0))), (nb, .inl (cI, 6, .inl (D' 1))), (ak, .inl (cI, 30, .inl (D' 2))), (ha, .inl (cI, 30, .inl (D' 3))), (b0, .inl (cI, 31, .inl (D' 4))), (b1, .inl (cI, 31, .inl (D' 5))), (b2, .inl (cI, 31, .inl (D' 6))), (b3, .inl (cI, 31, .inl (D' 7))), (b4, .inl (cI, 31, .inl (D' 8))), (b5, .inl (cI, 31, .inl (D' 9))), (b6, .inl (cI, 31, .inl (D' 10)))] t) (va_A [(mo, .inr (3, [.int th, .ref rr, .ref si, .ref nb, .ref ak, .ref ha])), (rr, .inl (cR, 7, .inr (.inr (.inr (.inr (RW [b0, b1, b2, b3, b4, b5, b6])))))), (si, .inl (cI, 7, .inl (D 0))), (nb, .inl (cI, 6, .inl (D 1))), (ak, .inl (cI, 30, .inl (D 2))), (ha, .inl (cI, 30, .inl (D 3))), (b0, .inl (cI, 31, .inl (D 4))), (b1, .inl (cI, 31, .inl (D 5))), (b2, .inl (cI, 31, .inl (D 6))), (b3, .inl (cI, 31, .inl (D 7))), (b4, .inl (cI, 31, .inl (D 8))), (b5, .inl (cI, 31, .inl (D 9))), (b6, .inl (cI, 31, .inl (D 10)))] sz)) 0 0 (va_A [(mo, .inr (3, [.int th, .ref rr, .ref si, .ref nb, .ref ak, .ref ha])), (rr, .inl (cR, 7, .inr (.inr (.inr (.inr (RW [b0, b1, b2, b3, b4, b5, b6])))))), (si, .inl (cI, 7, .inl (D 0))), (nb, .inl (cI, 6, .inl (D 1))), (ak, .inl (cI, 30, .inl (D 2))), (ha, .inl (cI, 30, .inl (D 3))), (b0, .inl (cI, 31, .inl (D 4))), (b1, .inl (cI, 31, .inl (D 5))), (b2, .inl (cI, 31, .inl (D 6))), (b3, .inl (cI, 31, .inl (D 7))), (b4, .inl (cI, 31, .inl (D 8))), (b5, .inl (cI, 31, .inl (D 9))), (b6, .inl (cI, 31, .inl (D 10)))] sz) := by
  refine Met.ofW (cc := cX3_toFront) (maxL := 3) (ret := none) (by decide) rfl ?_
  intro p e s m args below meth c s₁ B hml hv
  obtain ⟨rfl, hsz, hP, hK, hD0⟩ := hv
  have hx := B.exec
  have hb := B.bytes
  have hr := B.returns
  have hts := atoms_spec (ws := wsX3_toFront) B.pre
  have hown : s.vm.findClass RX3 = some m.cls := findClass_of_methodNamed B.named
  have hlocks := B.notSynchronized
  subst hsz
  have hD := hD0.self (sz := s.heap.size)
  clear hD0
  generalize hAe : va_A [(mo, .inr (3, [.int th, .ref rr, .ref si, .ref nb, .ref ak, .ref ha])), (rr, .inl (cR, 7, .inr (.inr (.inr (.inr (RW [b0, b1, b2, b3, b4, b5, b6])))))), (si, .inl (cI, 7, .inl (D 0))), (nb, .inl (cI, 6, .inl (D 1))), (ak, .inl (cI, 30, .inl (D 2))), (ha, .inl (cI, 30, .inl (D 3))), (b0, .inl (cI, 31, .inl (D 4))), (b1, .inl (cI, 31, .inl (D 5))), (b2, .inl (cI, 31, .inl (D 6))), (b3, .inl (cI, 31, .inl (D 7))), (b4, .inl (cI, 31, .inl (D 8))), (b5, .inl (cI, 31, .inl (D 9))), (b6, .inl (cI, 31, .inl (D 10)))] s.heap.size = A at hD ⊢
  have hA : ∀ q : Nat, s.heap.size ≤ q → A q := fun q h => by rw [← hAe]; exact Or.inr h
  have hS : va_S A s.heap s.heap [] := va_S.rf
  have hP : va_P G vwCl [(mo, .inr (3, [.int th, .ref rr, .ref si, .ref nb, .ref ak, .ref ha])), (rr, .inl (cR, 7, .inr (.inr (.inr (.inr (RW [b0, b1, b2, b3, b4, b5, b6])))))), (si, .inl (cI, 7, .inl (D 0))), (nb, .inl (cI, 6, .inl (D 1))), (ak, .inl (cI, 30, .inl (D 2))), (ha, .inl (cI, 30, .inl (D 3))), (b0, .inl (cI, 31, .inl (D 4))), (b1, .inl (cI, 31, .inl (D 5))), (b2, .inl (cI, 31, .inl (D 6))), (b3, .inl (cI, 31, .inl (D 7))), (b4, .inl (cI, 31, .inl (D 8))), (b5, .inl (cI, 31, .inl (D 9))), (b6, .inl (cI, 31, .inl (D 10)))] s.heap := hP
  have hl := lv_entry ([.ref mo, .int (nI 4), .int jar]) (n := 3) (Nat.le_of_ble_eq_true rfl)
  rw [lg_entry_eq]
  generalize (lg_sl ([.ref mo, .int (nI 4), .int jar]) ++ List.replicate (3 - (lg_sl ([.ref mo, .int (nI 4), .int jar])).length) Slot.unset).toArray = ls at hl ⊢
  have hl : lv_has ls 3 [(0, .ref mo), (1, .int (nI 4)), (2, .int jar)] := hl
  refine lv_aload_n hx hb dX3_toFront_0 rfl (lv_at hl 0 rfl) ?_
  refine va_get (D := G) (ci := 3) (v := .ref rr) (C := RX3) (T := TX3) (N := 6) hx hb hts iX3_toFront_X3 hown hK hP 0 rfl rfl 1 (by decide) (hts (.fieldLink RX3 11 "GhostPantryModel" "rows" "[[I") (by decide +kernel)) (fun _ h9 => h9) rfl dX3_toFront_1 ?_
  refine lv_iload_n hx hb dX3_toFront_4 rfl (lv_at hl 1 rfl) ?_
  refine g_aald hx hb hK hP 1 1 rfl rfl (i := 4) (by decide) (by decide) dX3_toFront_5 (b := b4) (rfl) ?_
  refine lv_iconst (v := (nI 0)) hx hb dX3_toFront_6 (by decide +kernel) ?_
  refine lv_aload_n hx hb dX3_toFront_7 rfl (lv_at hl 0 rfl) ?_
  refine va_get (D := G) (ci := 3) (v := .ref rr) (C := RX3) (T := TX3) (N := 6) hx hb hts iX3_toFront_X3 hown hK hP 0 rfl rfl 1 (by decide) (hts (.fieldLink RX3 11 "GhostPantryModel" "rows" "[[I") (by decide +kernel)) (fun _ h9 => h9) rfl dX3_toFront_8 ?_
  refine lv_iload_n hx hb dX3_toFront_11 rfl (lv_at hl 1 rfl) ?_
  refine g_aald hx hb hK hP 1 1 rfl rfl (i := 4) (by decide) (by decide) dX3_toFront_12 (b := b4) (rfl) ?_
  refine lv_iconst (v := (nI 1)) hx hb dX3_toFront_13 (by decide +kernel) ?_
  refine lv_aload_n hx hb dX3_toFront_14 rfl (lv_at hl 0 rfl) ?_
  refine va_get (D := G) (ci := 3) (v := .ref si) (C := RX3) (T := TX3) (N := 6) hx hb hts iX3_toFront_X3 hown hK hP 0 rfl rfl 2 (by decide) (hts (.fieldLink RX3 14 "GhostPantryModel" "sizes" "[I") (by decide +kernel)) (fun _ h9 => h9) rfl dX3_toFront_15 ?_
  refine lv_iload_n hx hb dX3_toFront_18 rfl (lv_at hl 1 rfl) ?_
  refine g_iald hx hb hK hP 2 0 rfl rfl (i := 4) (by decide) (by decide) dX3_toFront_19 (v := (nI L4.length)) (hM.2.2.2.2.2.2.2.2.2.1) ?_
  refine g_copyi hx hb (hml.trans hl.1.symm) hown (hts (.methodLink RX3 39 arraycopyName) (by decide +kernel)) (hts (.native arraycopyName) (by decide +kernel)) (hts (.static arraycopyName) (by decide +kernel)) (hts (.initialized "java/lang/System") (by decide +kernel)) hK hP hD hS 10 10 0 rfl rfl rfl (sp := 0) (dp := 1) (n := L4.length) (by decide) (by decide) (by omega) (by omega) (by omega) (Nat.le_of_ble_eq_true rfl) (Nat.le_of_ble_eq_true rfl) dX3_toFront_20 (fun H_1 locs hP1 hD1 hS1 => ?_)
  clear hP hD hS
  have hP : va_P G vwCl [(mo, .inr (3, [.int th, .ref rr, .ref si, .ref nb, .ref ak, .ref ha])), (rr, .inl (cR, 7, .inr (.inr (.inr (.inr (RW [b0, b1, b2, b3, b4, b5, b6])))))), (si, .inl (cI, 7, .inl (D 0))), (nb, .inl (cI, 6, .inl (D 1))), (ak, .inl (cI, 30, .inl (D 2))), (ha, .inl (cI, 30, .inl (D 3))), (b0, .inl (cI, 31, .inl (D 4))), (b1, .inl (cI, 31, .inl (D 5))), (b2, .inl (cI, 31, .inl (D 6))), (b3, .inl (cI, 31, .inl (D 7))), (b4, .inl (cI, 31, .inl (va_cpy (D 8) (D 8) 0 1 L4.length))), (b5, .inl (cI, 31, .inl (D 9))), (b6, .inl (cI, 31, .inl (D 10)))] H_1 := hP1
  have hD : va_D A [(mo, .inr (3, [.int th, .ref rr, .ref si, .ref nb, .ref ak, .ref ha])), (rr, .inl (cR, 7, .inr (.inr (.inr (.inr (RW [b0, b1, b2, b3, b4, b5, b6])))))), (si, .inl (cI, 7, .inl (D 0))), (nb, .inl (cI, 6, .inl (D 1))), (ak, .inl (cI, 30, .inl (D 2))), (ha, .inl (cI, 30, .inl (D 3))), (b0, .inl (cI, 31, .inl (D 4))), (b1, .inl (cI, 31, .inl (D 5))), (b2, .inl (cI, 31, .inl (D 6))), (b3, .inl (cI, 31, .inl (D 7))), (b4, .inl (cI, 31, .inl (va_cpy (D 8) (D 8) 0 1 L4.length))), (b5, .inl (cI, 31, .inl (D 9))), (b6, .inl (cI, 31, .inl (D 10)))] := hD1
  have hS := hS1
  clear hP1 hD1 hS1
  refine lv_aload_n hx hb dX3_toFront_23 rfl (lv_at hl 0 rfl) ?_
  refine va_get (D := G) (ci := 3) (v := .ref rr) (C := RX3) (T := TX3) (N := 6) hx hb hts iX3_toFront_X3 hown hK hP 0 rfl rfl 1 (by decide) (hts (.fieldLink RX3 11 "GhostPantryModel" "rows" "[[I") (by decide +kernel)) (fun _ h9 => h9) rfl dX3_toFront_24 ?_
  refine lv_iload_n hx hb dX3_toFront_27 rfl (lv_at hl 1 rfl) ?_
  refine g_aald hx hb hK hP 1 1 rfl rfl (i := 4) (by decide) (by decide) dX3_toFront_28 (b := b4) (rfl) ?_
  refine lv_iconst (v := (nI 0)) hx hb dX3_toFront_29 (by decide +kernel) ?_
  refine lv_iload_n hx hb dX3_toFront_30 rfl (lv_at hl 2 rfl) ?_
  refine g_iast hx hb hK hP hD hS 10 0 rfl rfl (i := 0) (x := jar) (by decide) (by decide) dX3_toFront_31 (fun H_2 locs hP1 hD1 hS1 => ?_)
  clear hP hD hS
  have hP : va_P G vwCl [(mo, .inr (3, [.int th, .ref rr, .ref si, .ref nb, .ref ak, .ref ha])), (rr, .inl (cR, 7, .inr (.inr (.inr (.inr (RW [b0, b1, b2, b3, b4, b5, b6])))))), (si, .inl (cI, 7, .inl (D 0))), (nb, .inl (cI, 6, .inl (D 1))), (ak, .inl (cI, 30, .inl (D 2))), (ha, .inl (cI, 30, .inl (D 3))), (b0, .inl (cI, 31, .inl (D 4))), (b1, .inl (cI, 31, .inl (D 5))), (b2, .inl (cI, 31, .inl (D 6))), (b3, .inl (cI, 31, .inl (D 7))), (b4, .inl (cI, 31, .inl (upd (va_cpy (D 8) (D 8) 0 1 L4.length) 0 jar))), (b5, .inl (cI, 31, .inl (D 9))), (b6, .inl (cI, 31, .inl (D 10)))] H_2 := hP1
  have hD : va_D A [(mo, .inr (3, [.int th, .ref rr, .ref si, .ref nb, .ref ak, .ref ha])), (rr, .inl (cR, 7, .inr (.inr (.inr (.inr (RW [b0, b1, b2, b3, b4, b5, b6])))))), (si, .inl (cI, 7, .inl (D 0))), (nb, .inl (cI, 6, .inl (D 1))), (ak, .inl (cI, 30, .inl (D 2))), (ha, .inl (cI, 30, .inl (D 3))), (b0, .inl (cI, 31, .inl (D 4))), (b1, .inl (cI, 31, .inl (D 5))), (b2, .inl (cI, 31, .inl (D 6))), (b3, .inl (cI, 31, .inl (D 7))), (b4, .inl (cI, 31, .inl (upd (va_cpy (D 8) (D 8) 0 1 L4.length) 0 jar))), (b5, .inl (cI, 31, .inl (D 9))), (b6, .inl (cI, 31, .inl (D 10)))] := hD1
  have hS := hS1
  clear hP1 hD1 hS1
  refine lv_aload_n hx hb dX3_toFront_32 rfl (lv_at hl 0 rfl) ?_
  refine va_get (D := G) (ci := 3) (v := .ref si) (C := RX3) (T := TX3) (N := 6) hx hb hts iX3_toFront_X3 hown hK hP 0 rfl rfl 2 (by decide) (hts (.fieldLink RX3 14 "GhostPantryModel" "sizes" "[I") (by decide +kernel)) (fun _ h9 => h9) rfl dX3_toFront_33 ?_
  refine lv_iload_n hx hb dX3_toFront_36 rfl (lv_at hl 1 rfl) ?_
  refine lv_dup2_11 hx hb dX3_toFront_37 rfl rfl ?_
  refine g_iald hx hb hK hP 2 0 rfl rfl (i := 4) (by decide) (by decide) dX3_toFront_38 (v := (nI L4.length)) (hM.2.2.2.2.2.2.2.2.2.1) ?_
  refine lv_iconst (v := (nI 1)) hx hb dX3_toFront_39 (by decide +kernel) ?_
  refine g_iadd hx hb dX3_toFront_40 ?_
  refine g_iast hx hb hK hP hD hS 2 0 rfl rfl (i := 4) (x := (nI (L4.length + 1))) (by decide) (by decide) dX3_toFront_41 (fun H_3 locs hP1 hD1 hS1 => ?_)
  clear hP hD hS
  have hP : va_P G vwCl [(mo, .inr (3, [.int th, .ref rr, .ref si, .ref nb, .ref ak, .ref ha])), (rr, .inl (cR, 7, .inr (.inr (.inr (.inr (RW [b0, b1, b2, b3, b4, b5, b6])))))), (si, .inl (cI, 7, .inl (upd (D 0) 4 (nI (L4.length + 1))))), (nb, .inl (cI, 6, .inl (D 1))), (ak, .inl (cI, 30, .inl (D 2))), (ha, .inl (cI, 30, .inl (D 3))), (b0, .inl (cI, 31, .inl (D 4))), (b1, .inl (cI, 31, .inl (D 5))), (b2, .inl (cI, 31, .inl (D 6))), (b3, .inl (cI, 31, .inl (D 7))), (b4, .inl (cI, 31, .inl (upd (va_cpy (D 8) (D 8) 0 1 L4.length) 0 jar))), (b5, .inl (cI, 31, .inl (D 9))), (b6, .inl (cI, 31, .inl (D 10)))] H_3 := hP1
  have hD : va_D A [(mo, .inr (3, [.int th, .ref rr, .ref si, .ref nb, .ref ak, .ref ha])), (rr, .inl (cR, 7, .inr (.inr (.inr (.inr (RW [b0, b1, b2, b3, b4, b5, b6])))))), (si, .inl (cI, 7, .inl (upd (D 0) 4 (nI (L4.length + 1))))), (nb, .inl (cI, 6, .inl (D 1))), (ak, .inl (cI, 30, .inl (D 2))), (ha, .inl (cI, 30, .inl (D 3))), (b0, .inl (cI, 31, .inl (D 4))), (b1, .inl (cI, 31, .inl (D 5))), (b2, .inl (cI, 31, .inl (D 6))), (b3, .inl (cI, 31, .inl (D 7))), (b4, .inl (cI, 31, .inl (upd (va_cpy (D 8) (D 8) 0 1 L4.length) 0 jar))), (b5, .inl (cI, 31, .inl (D 9))), (b6, .inl (cI, 31, .inl (D 10)))] := hD1
  have hS := hS1
  clear hP1 hD1 hS1
  have hP9 := hP.sub (ws' := [(mo, .inr (3, [.int th, .ref rr, .ref si, .ref nb, .ref ak, .ref ha])), (rr, .inl (cR, 7, .inr (.inr (.inr (.inr (RW [b0, b1, b2, b3, b4, b5, b6])))))), (si, .inl (cI, 7, .inl (upd (D 0) 4 (nI (L4.length + 1))))), (nb, .inl (cI, 6, .inl (D 1))), (ak, .inl (cI, 30, .inl (D 2))), (ha, .inl (cI, 30, .inl (D 3))), (b0, .inl (cI, 31, .inl (D 4))), (b1, .inl (cI, 31, .inl (D 5))), (b2, .inl (cI, 31, .inl (D 6))), (b3, .inl (cI, 31, .inl (D 7))), (b4, .inl (cI, 31, .inl (upd (va_cpy (D 8) (D 8) 0 1 L4.length) 0 jar))), (b5, .inl (cI, 31, .inl (D 9))), (b6, .inl (cI, 31, .inl (D 10)))]) [0, 1, 2, 3, 4, 5, 6, 7, 8, 9, 10, 11, 12] rfl
  have hD9 := hD.sub (ws' := [(mo, .inr (3, [.int th, .ref rr, .ref si, .ref nb, .ref ak, .ref ha])), (rr, .inl (cR, 7, .inr (.inr (.inr (.inr (RW [b0, b1, b2, b3, b4, b5, b6])))))), (si, .inl (cI, 7, .inl (upd (D 0) 4 (nI (L4.length + 1))))), (nb, .inl (cI, 6, .inl (D 1))), (ak, .inl (cI, 30, .inl (D 2))), (ha, .inl (cI, 30, .inl (D 3))), (b0, .inl (cI, 31, .inl (D 4))), (b1, .inl (cI, 31, .inl (D 5))), (b2, .inl (cI, 31, .inl (D 6))), (b3, .inl (cI, 31, .inl (D 7))), (b4, .inl (cI, 31, .inl (upd (va_cpy (D 8) (D 8) 0 1 L4.length) 0 jar))), (b5, .inl (cI, 31, .inl (D 9))), (b6, .inl (cI, 31, .inl (D 10)))]) [0, 1, 2, 3, 4, 5, 6, 7, 8, 9, 10, 11, 12] (by decide) rfl
  exact W.vret hx hb hr (fun t ht hW => ⟨⟨(), rfl, trivial, (dat (upd (D 0) 4 (nI (L4.length + 1))) (D 1) (D 2) (D 3) (D 4) (D 5) (D 6) (D 7) (upd (va_cpy (D 8) (D 8) 0 1 L4.length) 0 jar) (D 9) (D 10)), ⟨hM.1, hM.2.1, hM.2.2.1, (Rw_cons jar hM.2.2.2.1), hM.2.2.2.2.1, hM.2.2.2.2.2.1, hM.2.2.2.2.2.2.1, hM.2.2.2.2.2.2.2.1, hM.2.2.2.2.2.2.2.2.1, rfl, hM.2.2.2.2.2.2.2.2.2.2.1, hM.2.2.2.2.2.2.2.2.2.2.2.1, hM.2.2.2.2.2.2.2.2.2.2.2.2.1, hM.2.2.2.2.2.2.2.2.2.2.2.2.2.1, hM.2.2.2.2.2.2.2.2.2.2.2.2.2.2.1, hM.2.2.2.2.2.2.2.2.2.2.2.2.2.2.2.1, hM.2.2.2.2.2.2.2.2.2.2.2.2.2.2.2.2.1, hM.2.2.2.2.2.2.2.2.2.2.2.2.2.2.2.2.2.1, hM.2.2.2.2.2.2.2.2.2.2.2.2.2.2.2.2.2.2.1, hM.2.2.2.2.2.2.2.2.2.2.2.2.2.2.2.2.2.2.2⟩, g_at hP9 hK hD9 ht hW⟩, hS.F ht⟩) hS.2.2 dX3_toFront_42

set_option maxHeartbeats 4000000 in
set_option maxRecDepth 100000 in
theorem c_X3_takeOut_4 (l : Launch) (G : va_G) (cI cR : ClassId) (mo rr si nb ak ha b0 b1 b2 b3 b4 b5 b6 : Nat) (th : Int32) (D : Nat → Nat → Int32) (L1 L2 L3 L4 P M : List Int32) (rc bo : Nat) (nA nH nP nM : Int32) (KA TA : Nat → Int32) (hM : MOK D rc M ((L1, L2, L3, L4), P, bo, nA, nH, nP, nM, KA, TA)) (pl : Nat) (hp : pl < L4.length) (h30 : L4.length ≤ 30) (sz : Nat) : Met l yX3_takeOut wsX3_takeOut ({ frames := 1, cells := 0, slots := 0, locals := 18 }) (va_Pc [.ref mo, .int (nI 4), .int (nI pl)] (gpre G [(cI, .int), (cR, .array .int)] [(mo, .inr (3, [.int th, .ref rr, .ref si, .ref nb, .ref ak, .ref ha])), (rr, .inl (cR, 7, .inr (.inr (.inr (.inr (RW [b0, b1, b2, b3, b4, b5, b6])))))), (si, .inl (cI, 7, .inl (D 0))), (nb, .inl (cI, 6, .inl (D 1))), (ak, .inl (cI, 30, .inl (D 2))), (ha, .inl (cI, 30, .inl (D 3))), (b0, .inl (cI, 31, .inl (D 4))), (b1, .inl (cI, 31, .inl (D 5))), (b2, .inl (cI, 31, .inl (D 6))), (b3, .inl (cI, 31, .inl (D 7))), (b4, .inl (cI, 31, .inl (D 8))), (b5, .inl (cI, 31, .inl (D 9))), (b6, .inl (cI, 31, .inl (D 10)))] sz)) (va_Qv (fun (_ : Unit) => True) (fun (_ : Unit) t => ∃ D' : Nat → Nat → Int32, MOK D' rc M ((L1, L2, L3, (L4.eraseIdx pl)), P, bo, nA, nH, nP, nM, KA, TA) ∧ gat G [(cI, .int), (cR, .array .int)] (va_A [(mo, .inr (3, [.int th, .ref rr, .ref si, .ref nb, .ref ak, .ref ha])), (rr, .inl (cR, 7, .inr (.inr (.inr (.inr (RW [b0, b1, b2, b3, b4, b5, b6])))))), (si, .inl (cI, 7, .inl (D 0))), (nb, .inl (cI, 6, .inl (D 1))), (ak, .inl (cI, 30, .inl (D 2))), (ha, .inl (cI, 30, .inl (D 3))), (b0, .inl (cI, 31, .inl (D 4))), (b1, .inl (cI, 31, .inl (D 5))), (b2, .inl (cI, 31, .inl (D 6))), (b3, .inl (cI, 31, .inl (D 7))), (b4, .inl (cI, 31, .inl (D 8))), (b5, .inl (cI, 31, .inl (D 9))), (b6, .inl (cI, 31, .inl (D 10)))] sz) [(mo, .inr (3, [.int th, .ref rr, .ref si, .ref nb, .ref ak, .ref ha])), (rr, .inl (cR, 7, .inr (.inr (.inr (.inr (RW [b0, b1, b2, b3, b4, b5, b6])))))), (si, .inl (cI, 7, .inl (D' 0))), (nb, .inl (cI, 6, .inl (D' 1))), (ak, .inl (cI, 30, .inl (D' 2))), (ha, .inl (cI, 30, .inl (D' 3))), (b0, .inl (cI, 31, .inl (D' 4))), (b1, .inl (cI, 31, .inl (D' 5))), (b2, .inl (cI, 31, .inl (D' 6))), (b3, .inl (cI, 31, .inl (D' 7))), (b4, .inl (cI, 31, .inl (D' 8))), (b5, .inl (cI, 31, .inl (D' 9))), (b6, .inl (cI, 31, .inl (D' 10)))] t) (va_A [(mo, .inr (3, [.int th, .ref rr, .ref si, .ref nb, .ref ak, .ref ha])), (rr, .inl (cR, 7, .inr (.inr (.inr (.inr (RW [b0, b1, b2, b3, b4, b5, b6])))))), (si, .inl (cI, 7, .inl (D 0))), (nb, .inl (cI, 6, .inl (D 1))), (ak, .inl (cI, 30, .inl (D 2))), (ha, .inl (cI, 30, .inl (D 3))), (b0, .inl (cI, 31, .inl (D 4))), (b1, .inl (cI, 31, .inl (D 5))), (b2, .inl (cI, 31, .inl (D 6))), (b3, .inl (cI, 31, .inl (D 7))), (b4, .inl (cI, 31, .inl (D 8))), (b5, .inl (cI, 31, .inl (D 9))), (b6, .inl (cI, 31, .inl (D 10)))] sz)) 0 0 (va_A [(mo, .inr (3, [.int th, .ref rr, .ref si, .ref nb, .ref ak, .ref ha])), (rr, .inl (cR, 7, .inr (.inr (.inr (.inr (RW [b0, b1, b2, b3, b4, b5, b6])))))), (si, .inl (cI, 7, .inl (D 0))), (nb, .inl (cI, 6, .inl (D 1))), (ak, .inl (cI, 30, .inl (D 2))), (ha, .inl (cI, 30, .inl (D 3))), (b0, .inl (cI, 31, .inl (D 4))), (b1, .inl (cI, 31, .inl (D 5))), (b2, .inl (cI, 31, .inl (D 6))), (b3, .inl (cI, 31, .inl (D 7))), (b4, .inl (cI, 31, .inl (D 8))), (b5, .inl (cI, 31, .inl (D 9))), (b6, .inl (cI, 31, .inl (D 10)))] sz) := by
  refine Met.ofW (cc := cX3_takeOut) (maxL := 3) (ret := none) (by decide) rfl ?_
  intro p e s m args below meth c s₁ B hml hv
  obtain ⟨rfl, hsz, hP, hK, hD0⟩ := hv
  have hx := B.exec
  have hb := B.bytes
  have hr := B.returns
  have hts := atoms_spec (ws := wsX3_takeOut) B.pre
  have hown : s.vm.findClass RX3 = some m.cls := findClass_of_methodNamed B.named
  have hlocks := B.notSynchronized
  subst hsz
  have hD := hD0.self (sz := s.heap.size)
  clear hD0
  generalize hAe : va_A [(mo, .inr (3, [.int th, .ref rr, .ref si, .ref nb, .ref ak, .ref ha])), (rr, .inl (cR, 7, .inr (.inr (.inr (.inr (RW [b0, b1, b2, b3, b4, b5, b6])))))), (si, .inl (cI, 7, .inl (D 0))), (nb, .inl (cI, 6, .inl (D 1))), (ak, .inl (cI, 30, .inl (D 2))), (ha, .inl (cI, 30, .inl (D 3))), (b0, .inl (cI, 31, .inl (D 4))), (b1, .inl (cI, 31, .inl (D 5))), (b2, .inl (cI, 31, .inl (D 6))), (b3, .inl (cI, 31, .inl (D 7))), (b4, .inl (cI, 31, .inl (D 8))), (b5, .inl (cI, 31, .inl (D 9))), (b6, .inl (cI, 31, .inl (D 10)))] s.heap.size = A at hD ⊢
  have hA : ∀ q : Nat, s.heap.size ≤ q → A q := fun q h => by rw [← hAe]; exact Or.inr h
  have hS : va_S A s.heap s.heap [] := va_S.rf
  have hP : va_P G vwCl [(mo, .inr (3, [.int th, .ref rr, .ref si, .ref nb, .ref ak, .ref ha])), (rr, .inl (cR, 7, .inr (.inr (.inr (.inr (RW [b0, b1, b2, b3, b4, b5, b6])))))), (si, .inl (cI, 7, .inl (D 0))), (nb, .inl (cI, 6, .inl (D 1))), (ak, .inl (cI, 30, .inl (D 2))), (ha, .inl (cI, 30, .inl (D 3))), (b0, .inl (cI, 31, .inl (D 4))), (b1, .inl (cI, 31, .inl (D 5))), (b2, .inl (cI, 31, .inl (D 6))), (b3, .inl (cI, 31, .inl (D 7))), (b4, .inl (cI, 31, .inl (D 8))), (b5, .inl (cI, 31, .inl (D 9))), (b6, .inl (cI, 31, .inl (D 10)))] s.heap := hP
  have hl := lv_entry ([.ref mo, .int (nI 4), .int (nI pl)]) (n := 3) (Nat.le_of_ble_eq_true rfl)
  rw [lg_entry_eq]
  generalize (lg_sl ([.ref mo, .int (nI 4), .int (nI pl)]) ++ List.replicate (3 - (lg_sl ([.ref mo, .int (nI 4), .int (nI pl)])).length) Slot.unset).toArray = ls at hl ⊢
  have hl : lv_has ls 3 [(0, .ref mo), (1, .int (nI 4)), (2, .int (nI pl))] := hl
  refine lv_aload_n hx hb dX3_takeOut_0 rfl (lv_at hl 0 rfl) ?_
  refine va_get (D := G) (ci := 3) (v := .ref si) (C := RX3) (T := TX3) (N := 6) hx hb hts iX3_takeOut_X3 hown hK hP 0 rfl rfl 2 (by decide) (hts (.fieldLink RX3 14 "GhostPantryModel" "sizes" "[I") (by decide +kernel)) (fun _ h9 => h9) rfl dX3_takeOut_1 ?_
  refine lv_iload_n hx hb dX3_takeOut_4 rfl (lv_at hl 1 rfl) ?_
  refine lv_dup2_11 hx hb dX3_takeOut_5 rfl rfl ?_
  refine g_iald hx hb hK hP 2 0 rfl rfl (i := 4) (by decide) (by decide) dX3_takeOut_6 (v := (nI L4.length)) (hM.2.2.2.2.2.2.2.2.2.1) ?_
  refine lv_iconst (v := (nI 1)) hx hb dX3_takeOut_7 (by decide +kernel) ?_
  refine g_isub hx hb dX3_takeOut_8 (by omega) ?_
  refine g_iast hx hb hK hP hD hS 2 0 rfl rfl (i := 4) (x := (nI (L4.length - 1))) (by decide) (by decide) dX3_takeOut_9 (fun H_1 locs hP1 hD1 hS1 => ?_)
  clear hP hD hS
  have hP : va_P G vwCl [(mo, .inr (3, [.int th, .ref rr, .ref si, .ref nb, .ref ak, .ref ha])), (rr, .inl (cR, 7, .inr (.inr (.inr (.inr (RW [b0, b1, b2, b3, b4, b5, b6])))))), (si, .inl (cI, 7, .inl (upd (D 0) 4 (nI (L4.length - 1))))), (nb, .inl (cI, 6, .inl (D 1))), (ak, .inl (cI, 30, .inl (D 2))), (ha, .inl (cI, 30, .inl (D 3))), (b0, .inl (cI, 31, .inl (D 4))), (b1, .inl (cI, 31, .inl (D 5))), (b2, .inl (cI, 31, .inl (D 6))), (b3, .inl (cI, 31, .inl (D 7))), (b4, .inl (cI, 31, .inl (D 8))), (b5, .inl (cI, 31, .inl (D 9))), (b6, .inl (cI, 31, .inl (D 10)))] H_1 := hP1
  have hD : va_D A [(mo, .inr (3, [.int th, .ref rr, .ref si, .ref nb, .ref ak, .ref ha])), (rr, .inl (cR, 7, .inr (.inr (.inr (.inr (RW [b0, b1, b2, b3, b4, b5, b6])))))), (si, .inl (cI, 7, .inl (upd (D 0) 4 (nI (L4.length - 1))))), (nb, .inl (cI, 6, .inl (D 1))), (ak, .inl (cI, 30, .inl (D 2))), (ha, .inl (cI, 30, .inl (D 3))), (b0, .inl (cI, 31, .inl (D 4))), (b1, .inl (cI, 31, .inl (D 5))), (b2, .inl (cI, 31, .inl (D 6))), (b3, .inl (cI, 31, .inl (D 7))), (b4, .inl (cI, 31, .inl (D 8))), (b5, .inl (cI, 31, .inl (D 9))), (b6, .inl (cI, 31, .inl (D 10)))] := hD1
  have hS := hS1
  clear hP1 hD1 hS1
  refine lv_aload_n hx hb dX3_takeOut_10 rfl (lv_at hl 0 rfl) ?_
  refine va_get (D := G) (ci := 3) (v := .ref rr) (C := RX3) (T := TX3) (N := 6) hx hb hts iX3_takeOut_X3 hown hK hP 0 rfl rfl 1 (by decide) (hts (.fieldLink RX3 11 "GhostPantryModel" "rows" "[[I") (by decide +kernel)) (fun _ h9 => h9) rfl dX3_takeOut_11 ?_
  refine lv_iload_n hx hb dX3_takeOut_14 rfl (lv_at hl 1 rfl) ?_
  refine g_aald hx hb hK hP 1 1 rfl rfl (i := 4) (by decide) (by decide) dX3_takeOut_15 (b := b4) (rfl) ?_
  refine lv_iload_n hx hb dX3_takeOut_16 rfl (lv_at hl 2 rfl) ?_
  refine lv_iconst (v := (nI 1)) hx hb dX3_takeOut_17 (by decide +kernel) ?_
  refine g_iadd hx hb dX3_takeOut_18 ?_
  refine lv_aload_n hx hb dX3_takeOut_19 rfl (lv_at hl 0 rfl) ?_
  refine va_get (D := G) (ci := 3) (v := .ref rr) (C := RX3) (T := TX3) (N := 6) hx hb hts iX3_takeOut_X3 hown hK hP 0 rfl rfl 1 (by decide) (hts (.fieldLink RX3 11 "GhostPantryModel" "rows" "[[I") (by decide +kernel)) (fun _ h9 => h9) rfl dX3_takeOut_20 ?_
  refine lv_iload_n hx hb dX3_takeOut_23 rfl (lv_at hl 1 rfl) ?_
  refine g_aald hx hb hK hP 1 1 rfl rfl (i := 4) (by decide) (by decide) dX3_takeOut_24 (b := b4) (rfl) ?_
  refine lv_iload_n hx hb dX3_takeOut_25 rfl (lv_at hl 2 rfl) ?_
  refine lv_aload_n hx hb dX3_takeOut_26 rfl (lv_at hl 0 rfl) ?_
  refine va_get (D := G) (ci := 3) (v := .ref si) (C := RX3) (T := TX3) (N := 6) hx hb hts iX3_takeOut_X3 hown hK hP 0 rfl rfl 2 (by decide) (hts (.fieldLink RX3 14 "GhostPantryModel" "sizes" "[I") (by decide +kernel)) (fun _ h9 => h9) rfl dX3_takeOut_27 ?_
  refine lv_iload_n hx hb dX3_takeOut_30 rfl (lv_at hl 1 rfl) ?_
  refine g_iald hx hb hK hP 2 0 rfl rfl (i := 4) (by decide) (by decide) dX3_takeOut_31 (v := (nI (L4.length - 1))) (rfl) ?_
  refine lv_iload_n hx hb dX3_takeOut_32 rfl (lv_at hl 2 rfl) ?_
  refine g_isub hx hb dX3_takeOut_33 (by omega) ?_
  refine g_copyi hx hb (hml.trans hl.1.symm) hown (hts (.methodLink RX3 39 arraycopyName) (by decide +kernel)) (hts (.native arraycopyName) (by decide +kernel)) (hts (.static arraycopyName) (by decide +kernel)) (hts (.initialized "java/lang/System") (by decide +kernel)) hK hP hD hS 10 10 0 rfl rfl rfl (sp := (pl + 1)) (dp := pl) (n := ((L4.length - 1) - pl)) (by omega) (by omega) (by omega) (by omega) (by omega) (Nat.le_of_ble_eq_true rfl) (Nat.le_of_ble_eq_true rfl) dX3_takeOut_34 (fun H_2 locs hP1 hD1 hS1 => ?_)
  clear hP hD hS
  have hP : va_P G vwCl [(mo, .inr (3, [.int th, .ref rr, .ref si, .ref nb, .ref ak, .ref ha])), (rr, .inl (cR, 7, .inr (.inr (.inr (.inr (RW [b0, b1, b2, b3, b4, b5, b6])))))), (si, .inl (cI, 7, .inl (upd (D 0) 4 (nI (L4.length - 1))))), (nb, .inl (cI, 6, .inl (D 1))), (ak, .inl (cI, 30, .inl (D 2))), (ha, .inl (cI, 30, .inl (D 3))), (b0, .inl (cI, 31, .inl (D 4))), (b1, .inl (cI, 31, .inl (D 5))), (b2, .inl (cI, 31, .inl (D 6))), (b3, .inl (cI, 31, .inl (D 7))), (b4, .inl (cI, 31, .inl (va_cpy (D 8) (D 8) (pl + 1) pl ((L4.length - 1) - pl)))), (b5, .inl (cI, 31, .inl (D 9))), (b6, .inl (cI, 31, .inl (D 10)))] H_2 := hP1
  have hD : va_D A [(mo, .inr (3, [.int th, .ref rr, .ref si, .ref nb, .ref ak, .ref ha])), (rr, .inl (cR, 7, .inr (.inr (.inr (.inr (RW [b0, b1, b2, b3, b4, b5, b6])))))), (si, .inl (cI, 7, .inl (upd (D 0) 4 (nI (L4.length - 1))))), (nb, .inl (cI, 6, .inl (D 1))), (ak, .inl (cI, 30, .inl (D 2))), (ha, .inl (cI, 30, .inl (D 3))), (b0, .inl (cI, 31, .inl (D 4))), (b1, .inl (cI, 31, .inl (D 5))), (b2, .inl (cI, 31, .inl (D 6))), (b3, .inl (cI, 31, .inl (D 7))), (b4, .inl (cI, 31, .inl (va_cpy (D 8) (D 8) (pl + 1) pl ((L4.length - 1) - pl)))), (b5, .inl (cI, 31, .inl (D 9))), (b6, .inl (cI, 31, .inl (D 10)))] := hD1
  have hS := hS1
  clear hP1 hD1 hS1
  have hP9 := hP.sub (ws' := [(mo, .inr (3, [.int th, .ref rr, .ref si, .ref nb, .ref ak, .ref ha])), (rr, .inl (cR, 7, .inr (.inr (.inr (.inr (RW [b0, b1, b2, b3, b4, b5, b6])))))), (si, .inl (cI, 7, .inl (upd (D 0) 4 (nI (L4.length - 1))))), (nb, .inl (cI, 6, .inl (D 1))), (ak, .inl (cI, 30, .inl (D 2))), (ha, .inl (cI, 30, .inl (D 3))), (b0, .inl (cI, 31, .inl (D 4))), (b1, .inl (cI, 31, .inl (D 5))), (b2, .inl (cI, 31, .inl (D 6))), (b3, .inl (cI, 31, .inl (D 7))), (b4, .inl (cI, 31, .inl (va_cpy (D 8) (D 8) (pl + 1) pl ((L4.length - 1) - pl)))), (b5, .inl (cI, 31, .inl (D 9))), (b6, .inl (cI, 31, .inl (D 10)))]) [0, 1, 2, 3, 4, 5, 6, 7, 8, 9, 10, 11, 12] rfl
  have hD9 := hD.sub (ws' := [(mo, .inr (3, [.int th, .ref rr, .ref si, .ref nb, .ref ak, .ref ha])), (rr, .inl (cR, 7, .inr (.inr (.inr (.inr (RW [b0, b1, b2, b3, b4, b5, b6])))))), (si, .inl (cI, 7, .inl (upd (D 0) 4 (nI (L4.length - 1))))), (nb, .inl (cI, 6, .inl (D 1))), (ak, .inl (cI, 30, .inl (D 2))), (ha, .inl (cI, 30, .inl (D 3))), (b0, .inl (cI, 31, .inl (D 4))), (b1, .inl (cI, 31, .inl (D 5))), (b2, .inl (cI, 31, .inl (D 6))), (b3, .inl (cI, 31, .inl (D 7))), (b4, .inl (cI, 31, .inl (va_cpy (D 8) (D 8) (pl + 1) pl ((L4.length - 1) - pl)))), (b5, .inl (cI, 31, .inl (D 9))), (b6, .inl (cI, 31, .inl (D 10)))]) [0, 1, 2, 3, 4, 5, 6, 7, 8, 9, 10, 11, 12] (by decide) rfl
  exact W.vret hx hb hr (fun t ht hW => ⟨⟨(), rfl, trivial, (dat (upd (D 0) 4 (nI (L4.length - 1))) (D 1) (D 2) (D 3) (D 4) (D 5) (D 6) (D 7) (va_cpy (D 8) (D 8) (pl + 1) pl ((L4.length - 1) - pl)) (D 9) (D 10)), ⟨hM.1, hM.2.1, hM.2.2.1, (Rw_erase2 hM.2.2.2.1 hp), hM.2.2.2.2.1, hM.2.2.2.2.2.1, hM.2.2.2.2.2.2.1, hM.2.2.2.2.2.2.2.1, hM.2.2.2.2.2.2.2.2.1, (congrArg nI (List.length_eraseIdx_of_lt hp).symm), hM.2.2.2.2.2.2.2.2.2.2.1, hM.2.2.2.2.2.2.2.2.2.2.2.1, hM.2.2.2.2.2.2.2.2.2.2.2.2.1, hM.2.2.2.2.2.2.2.2.2.2.2.2.2.1, hM.2.2.2.2.2.2.2.2.2.2.2.2.2.2.1, hM.2.2.2.2.2.2.2.2.2.2.2.2.2.2.2.1, hM.2.2.2.2.2.2.2.2.2.2.2.2.2.2.2.2.1, hM.2.2.2.2.2.2.2.2.2.2.2.2.2.2.2.2.2.1, hM.2.2.2.2.2.2.2.2.2.2.2.2.2.2.2.2.2.2.1, hM.2.2.2.2.2.2.2.2.2.2.2.2.2.2.2.2.2.2.2⟩, g_at hP9 hK hD9 ht hW⟩, hS.F ht⟩) hS.2.2 dX3_takeOut_37

set_option maxHeartbeats 4000000 in
set_option maxRecDepth 100000 in
theorem c_X3_last_4 (l : Launch) (G : va_G) (cI cR : ClassId) (mo rr si nb ak ha b0 b1 b2 b3 b4 b5 b6 : Nat) (th : Int32) (D : Nat → Nat → Int32) (L1 L2 L3 L4 P M : List Int32) (rc bo : Nat) (nA nH nP nM : Int32) (KA TA : Nat → Int32) (hM : MOK D rc M ((L1, L2, L3, L4), P, bo, nA, nH, nP, nM, KA, TA)) (h0 : 0 < L4.length) (h30 : L4.length ≤ 30) (sz : Nat) : Met l yX3_last wsX3_last ({ frames := 0, cells := 0, slots := 0, locals := 0 }) (va_Pc [.ref mo, .int (nI 4)] (gpre G [(cI, .int), (cR, .array .int)] [(mo, .inr (3, [.int th, .ref rr, .ref si, .ref nb, .ref ak, .ref ha])), (rr, .inl (cR, 7, .inr (.inr (.inr (.inr (RW [b0, b1, b2, b3, b4, b5, b6])))))), (si, .inl (cI, 7, .inl (D 0))), (nb, .inl (cI, 6, .inl (D 1))), (ak, .inl (cI, 30, .inl (D 2))), (ha, .inl (cI, 30, .inl (D 3))), (b0, .inl (cI, 31, .inl (D 4))), (b1, .inl (cI, 31, .inl (D 5))), (b2, .inl (cI, 31, .inl (D 6))), (b3, .inl (cI, 31, .inl (D 7))), (b4, .inl (cI, 31, .inl (D 8))), (b5, .inl (cI, 31, .inl (D 9))), (b6, .inl (cI, 31, .inl (D 10)))] sz)) (va_Qi (fun (z : Int32) (_ : Unit) => z = lst L4) (fun (_ : Unit) t => ∃ D' : Nat → Nat → Int32, MOK D' rc M ((L1, L2, L3, L4.dropLast), P, bo, nA, nH, nP, nM, KA, TA) ∧ gat G [(cI, .int), (cR, .array .int)] (va_A [(mo, .inr (3, [.int th, .ref rr, .ref si, .ref nb, .ref ak, .ref ha])), (rr, .inl (cR, 7, .inr (.inr (.inr (.inr (RW [b0, b1, b2, b3, b4, b5, b6])))))), (si, .inl (cI, 7, .inl (D 0))), (nb, .inl (cI, 6, .inl (D 1))), (ak, .inl (cI, 30, .inl (D 2))), (ha, .inl (cI, 30, .inl (D 3))), (b0, .inl (cI, 31, .inl (D 4))), (b1, .inl (cI, 31, .inl (D 5))), (b2, .inl (cI, 31, .inl (D 6))), (b3, .inl (cI, 31, .inl (D 7))), (b4, .inl (cI, 31, .inl (D 8))), (b5, .inl (cI, 31, .inl (D 9))), (b6, .inl (cI, 31, .inl (D 10)))] sz) [(mo, .inr (3, [.int th, .ref rr, .ref si, .ref nb, .ref ak, .ref ha])), (rr, .inl (cR, 7, .inr (.inr (.inr (.inr (RW [b0, b1, b2, b3, b4, b5, b6])))))), (si, .inl (cI, 7, .inl (D' 0))), (nb, .inl (cI, 6, .inl (D' 1))), (ak, .inl (cI, 30, .inl (D' 2))), (ha, .inl (cI, 30, .inl (D' 3))), (b0, .inl (cI, 31, .inl (D' 4))), (b1, .inl (cI, 31, .inl (D' 5))), (b2, .inl (cI, 31, .inl (D' 6))), (b3, .inl (cI, 31, .inl (D' 7))), (b4, .inl (cI, 31, .inl (D' 8))), (b5, .inl (cI, 31, .inl (D' 9))), (b6, .inl (cI, 31, .inl (D' 10)))] t) (va_A [(mo, .inr (3, [.int th, .ref rr, .ref si, .ref nb, .ref ak, .ref ha])), (rr, .inl (cR, 7, .inr (.inr (.inr (.inr (RW [b0, b1, b2, b3, b4, b5, b6])))))), (si, .inl (cI, 7, .inl (D 0))), (nb, .inl (cI, 6, .inl (D 1))), (ak, .inl (cI, 30, .inl (D 2))), (ha, .inl (cI, 30, .inl (D 3))), (b0, .inl (cI, 31, .inl (D 4))), (b1, .inl (cI, 31, .inl (D 5))), (b2, .inl (cI, 31, .inl (D 6))), (b3, .inl (cI, 31, .inl (D 7))), (b4, .inl (cI, 31, .inl (D 8))), (b5, .inl (cI, 31, .inl (D 9))), (b6, .inl (cI, 31, .inl (D 10)))] sz)) 0 0 (va_A [(mo, .inr (3, [.int th, .ref rr, .ref si, .ref nb, .ref ak, .ref ha])), (rr, .inl (cR, 7, .inr (.inr (.inr (.inr (RW [b0, b1, b2, b3, b4, b5, b6])))))), (si, .inl (cI, 7, .inl (D 0))), (nb, .inl (cI, 6, .inl (D 1))), (ak, .inl (cI, 30, .inl (D 2))), (ha, .inl (cI, 30, .inl (D 3))), (b0, .inl (cI, 31, .inl (D 4))), (b1, .inl (cI, 31, .inl (D 5))), (b2, .inl (cI, 31, .inl (D 6))), (b3, .inl (cI, 31, .inl (D 7))), (b4, .inl (cI, 31, .inl (D 8))), (b5, .inl (cI, 31, .inl (D 9))), (b6, .inl (cI, 31, .inl (D 10)))] sz) := by
  refine Met.ofW (cc := cX3_last) (maxL := 2) (ret := (some .int)) (by decide) rfl ?_
  intro p e s m args below meth c s₁ B hml hv
  obtain ⟨rfl, hsz, hP, hK, hD0⟩ := hv
  have hx := B.exec
  have hb := B.bytes
  have hr := B.returns
  have hts := atoms_spec (ws := wsX3_last) B.pre
  have hown : s.vm.findClass RX3 = some m.cls := findClass_of_methodNamed B.named
  have hlocks := B.notSynchronized
  subst hsz
  have hD := hD0.self (sz := s.heap.size)
  clear hD0
  generalize hAe : va_A [(mo, .inr (3, [.int th, .ref rr, .ref si, .ref nb, .ref ak, .ref ha])), (rr, .inl (cR, 7, .inr (.inr (.inr (.inr (RW [b0, b1, b2, b3, b4, b5, b6])))))), (si, .inl (cI, 7, .inl (D 0))), (nb, .inl (cI, 6, .inl (D 1))), (ak, .inl (cI, 30, .inl (D 2))), (ha, .inl (cI, 30, .inl (D 3))), (b0, .inl (cI, 31, .inl (D 4))), (b1, .inl (cI, 31, .inl (D 5))), (b2, .inl (cI, 31, .inl (D 6))), (b3, .inl (cI, 31, .inl (D 7))), (b4, .inl (cI, 31, .inl (D 8))), (b5, .inl (cI, 31, .inl (D 9))), (b6, .inl (cI, 31, .inl (D 10)))] s.heap.size = A at hD ⊢
  have hA : ∀ q : Nat, s.heap.size ≤ q → A q := fun q h => by rw [← hAe]; exact Or.inr h
  have hS : va_S A s.heap s.heap [] := va_S.rf
  have hP : va_P G vwCl [(mo, .inr (3, [.int th, .ref rr, .ref si, .ref nb, .ref ak, .ref ha])), (rr, .inl (cR, 7, .inr (.inr (.inr (.inr (RW [b0, b1, b2, b3, b4, b5, b6])))))), (si, .inl (cI, 7, .inl (D 0))), (nb, .inl (cI, 6, .inl (D 1))), (ak, .inl (cI, 30, .inl (D 2))), (ha, .inl (cI, 30, .inl (D 3))), (b0, .inl (cI, 31, .inl (D 4))), (b1, .inl (cI, 31, .inl (D 5))), (b2, .inl (cI, 31, .inl (D 6))), (b3, .inl (cI, 31, .inl (D 7))), (b4, .inl (cI, 31, .inl (D 8))), (b5, .inl (cI, 31, .inl (D 9))), (b6, .inl (cI, 31, .inl (D 10)))] s.heap := hP
  have hl := lv_entry ([.ref mo, .int (nI 4)]) (n := 2) (Nat.le_of_ble_eq_true rfl)
  rw [lg_entry_eq]
  generalize (lg_sl ([.ref mo, .int (nI 4)]) ++ List.replicate (2 - (lg_sl ([.ref mo, .int (nI 4)])).length) Slot.unset).toArray = ls at hl ⊢
  have hl : lv_has ls 2 [(0, .ref mo), (1, .int (nI 4))] := hl
  refine lv_aload_n hx hb dX3_last_0 rfl (lv_at hl 0 rfl) ?_
  refine va_get (D := G) (ci := 3) (v := .ref si) (C := RX3) (T := TX3) (N := 6) hx hb hts iX3_last_X3 hown hK hP 0 rfl rfl 2 (by decide) (hts (.fieldLink RX3 14 "GhostPantryModel" "sizes" "[I") (by decide +kernel)) (fun _ h9 => h9) rfl dX3_last_1 ?_
  refine lv_iload_n hx hb dX3_last_4 rfl (lv_at hl 1 rfl) ?_
  refine lv_dup2_11 hx hb dX3_last_5 rfl rfl ?_
  refine g_iald hx hb hK hP 2 0 rfl rfl (i := 4) (by decide) (by decide) dX3_last_6 (v := (nI L4.length)) (hM.2.2.2.2.2.2.2.2.2.1) ?_
  refine lv_iconst (v := (nI 1)) hx hb dX3_last_7 (by decide +kernel) ?_
  refine g_isub hx hb dX3_last_8 (by omega) ?_
  refine g_iast hx hb hK hP hD hS 2 0 rfl rfl (i := 4) (x := (nI (L4.length - 1))) (by decide) (by decide) dX3_last_9 (fun H_1 locs hP1 hD1 hS1 => ?_)
  clear hP hD hS
  have hP : va_P G vwCl [(mo, .inr (3, [.int th, .ref rr, .ref si, .ref nb, .ref ak, .ref ha])), (rr, .inl (cR, 7, .inr (.inr (.inr (.inr (RW [b0, b1, b2, b3, b4, b5, b6])))))), (si, .inl (cI, 7, .inl (upd (D 0) 4 (nI (L4.length - 1))))), (nb, .inl (cI, 6, .inl (D 1))), (ak, .inl (cI, 30, .inl (D 2))), (ha, .inl (cI, 30, .inl (D 3))), (b0, .inl (cI, 31, .inl (D 4))), (b1, .inl (cI, 31, .inl (D 5))), (b2, .inl (cI, 31, .inl (D 6))), (b3, .inl (cI, 31, .inl (D 7))), (b4, .inl (cI, 31, .inl (D 8))), (b5, .inl (cI, 31, .inl (D 9))), (b6, .inl (cI, 31, .inl (D 10)))] H_1 := hP1
  have hD : va_D A [(mo, .inr (3, [.int th, .ref rr, .ref si, .ref nb, .ref ak, .ref ha])), (rr, .inl (cR, 7, .inr (.inr (.inr (.inr (RW [b0, b1, b2, b3, b4, b5, b6])))))), (si, .inl (cI, 7, .inl (upd (D 0) 4 (nI (L4.length - 1))))), (nb, .inl (cI, 6, .inl (D 1))), (ak, .inl (cI, 30, .inl (D 2))), (ha, .inl (cI, 30, .inl (D 3))), (b0, .inl (cI, 31, .inl (D 4))), (b1, .inl (cI, 31, .inl (D 5))), (b2, .inl (cI, 31, .inl (D 6))), (b3, .inl (cI, 31, .inl (D 7))), (b4, .inl (cI, 31, .inl (D 8))), (b5, .inl (cI, 31, .inl (D 9))), (b6, .inl (cI, 31, .inl (D 10)))] := hD1
  have hS := hS1
  clear hP1 hD1 hS1
  refine lv_aload_n hx hb dX3_last_10 rfl (lv_at hl 0 rfl) ?_
  refine va_get (D := G) (ci := 3) (v := .ref rr) (C := RX3) (T := TX3) (N := 6) hx hb hts iX3_last_X3 hown hK hP 0 rfl rfl 1 (by decide) (hts (.fieldLink RX3 11 "GhostPantryModel" "rows" "[[I") (by decide +kernel)) (fun _ h9 => h9) rfl dX3_last_11 ?_
  refine lv_iload_n hx hb dX3_last_14 rfl (lv_at hl 1 rfl) ?_
  refine g_aald hx hb hK hP 1 1 rfl rfl (i := 4) (by decide) (by decide) dX3_last_15 (b := b4) (rfl) ?_
  refine lv_aload_n hx hb dX3_last_16 rfl (lv_at hl 0 rfl) ?_
  refine va_get (D := G) (ci := 3) (v := .ref si) (C := RX3) (T := TX3) (N := 6) hx hb hts iX3_last_X3 hown hK hP 0 rfl rfl 2 (by decide) (hts (.fieldLink RX3 14 "GhostPantryModel" "sizes" "[I") (by decide +kernel)) (fun _ h9 => h9) rfl dX3_last_17 ?_
  refine lv_iload_n hx hb dX3_last_20 rfl (lv_at hl 1 rfl) ?_
  refine g_iald hx hb hK hP 2 0 rfl rfl (i := 4) (by decide) (by decide) dX3_last_21 (v := (nI (L4.length - 1))) (rfl) ?_
  refine g_iald hx hb hK hP 10 0 rfl rfl (i := (L4.length - 1)) (by omega) (by decide) dX3_last_22 (v := (lst L4)) (Rw_lst hM.2.2.2.1 h0) ?_
  have hP9 := hP.sub (ws' := [(mo, .inr (3, [.int th, .ref rr, .ref si, .ref nb, .ref ak, .ref ha])), (rr, .inl (cR, 7, .inr (.inr (.inr (.inr (RW [b0, b1, b2, b3, b4, b5, b6])))))), (si, .inl (cI, 7, .inl (upd (D 0) 4 (nI (L4.length - 1))))), (nb, .inl (cI, 6, .inl (D 1))), (ak, .inl (cI, 30, .inl (D 2))), (ha, .inl (cI, 30, .inl (D 3))), (b0, .inl (cI, 31, .inl (D 4))), (b1, .inl (cI, 31, .inl (D 5))), (b2, .inl (cI, 31, .inl (D 6))), (b3, .inl (cI, 31, .inl (D 7))), (b4, .inl (cI, 31, .inl (D 8))), (b5, .inl (cI, 31, .inl (D 9))), (b6, .inl (cI, 31, .inl (D 10)))]) [0, 1, 2, 3, 4, 5, 6, 7, 8, 9, 10, 11, 12] rfl
  have hD9 := hD.sub (ws' := [(mo, .inr (3, [.int th, .ref rr, .ref si, .ref nb, .ref ak, .ref ha])), (rr, .inl (cR, 7, .inr (.inr (.inr (.inr (RW [b0, b1, b2, b3, b4, b5, b6])))))), (si, .inl (cI, 7, .inl (upd (D 0) 4 (nI (L4.length - 1))))), (nb, .inl (cI, 6, .inl (D 1))), (ak, .inl (cI, 30, .inl (D 2))), (ha, .inl (cI, 30, .inl (D 3))), (b0, .inl (cI, 31, .inl (D 4))), (b1, .inl (cI, 31, .inl (D 5))), (b2, .inl (cI, 31, .inl (D 6))), (b3, .inl (cI, 31, .inl (D 7))), (b4, .inl (cI, 31, .inl (D 8))), (b5, .inl (cI, 31, .inl (D 9))), (b6, .inl (cI, 31, .inl (D 10)))]) [0, 1, 2, 3, 4, 5, 6, 7, 8, 9, 10, 11, 12] (by decide) rfl
  exact W.iret (v := (lst L4)) hx hb hr (fun t ht hW => ⟨⟨(lst L4), (), rfl, rfl, (dat (upd (D 0) 4 (nI (L4.length - 1))) (D 1) (D 2) (D 3) (D 4) (D 5) (D 6) (D 7) (D 8) (D 9) (D 10)), ⟨hM.1, hM.2.1, hM.2.2.1, (Rw_drop hM.2.2.2.1), hM.2.2.2.2.1, hM.2.2.2.2.2.1, hM.2.2.2.2.2.2.1, hM.2.2.2.2.2.2.2.1, hM.2.2.2.2.2.2.2.2.1, (congrArg nI List.length_dropLast.symm), hM.2.2.2.2.2.2.2.2.2.2.1, hM.2.2.2.2.2.2.2.2.2.2.2.1, hM.2.2.2.2.2.2.2.2.2.2.2.2.1, hM.2.2.2.2.2.2.2.2.2.2.2.2.2.1, hM.2.2.2.2.2.2.2.2.2.2.2.2.2.2.1, hM.2.2.2.2.2.2.2.2.2.2.2.2.2.2.2.1, hM.2.2.2.2.2.2.2.2.2.2.2.2.2.2.2.2.1, hM.2.2.2.2.2.2.2.2.2.2.2.2.2.2.2.2.2.1, hM.2.2.2.2.2.2.2.2.2.2.2.2.2.2.2.2.2.2.1, hM.2.2.2.2.2.2.2.2.2.2.2.2.2.2.2.2.2.2.2⟩, g_at hP9 hK hD9 ht hW⟩, hS.F ht⟩) hS.2.2 dX3_last_23

set_option maxHeartbeats 4000000 in
set_option maxRecDepth 100000 in
theorem c_X3_toFront_5 (l : Launch) (G : va_G) (cI cR : ClassId) (mo rr si nb ak ha b0 b1 b2 b3 b4 b5 b6 : Nat) (th : Int32) (D : Nat → Nat → Int32) (L1 L2 L3 L4 P M : List Int32) (rc bo : Nat) (nA nH nP nM : Int32) (KA TA : Nat → Int32) (hM : MOK D rc M ((L1, L2, L3, L4), P, bo, nA, nH, nP, nM, KA, TA)) (jar : Int32) (h30 : P.length ≤ 30) (sz : Nat) : Met l yX3_toFront wsX3_toFront ({ frames := 1, cells := 0, slots := 0, locals := 18 }) (va_Pc [.ref mo, .int (nI 5), .int jar] (gpre G [(cI, .int), (cR, .array .int)] [(mo, .inr (3, [.int th, .ref rr, .ref si, .ref nb, .ref ak, .ref ha])), (rr, .inl (cR, 7, .inr (.inr (.inr (.inr (RW [b0, b1, b2, b3, b4, b5, b6])))))), (si, .inl (cI, 7, .inl (D 0))), (nb, .inl (cI, 6, .inl (D 1))), (ak, .inl (cI, 30, .inl (D 2))), (ha, .inl (cI, 30, .inl (D 3))), (b0, .inl (cI, 31, .inl (D 4))), (b1, .inl (cI, 31, .inl (D 5))), (b2, .inl (cI, 31, .inl (D 6))), (b3, .inl (cI, 31, .inl (D 7))), (b4, .inl (cI, 31, .inl (D 8))), (b5, .inl (cI, 31, .inl (D 9))), (b6, .inl (cI, 31, .inl (D 10)))] sz)) (va_Qv (fun (_ : Unit) => True) (fun (_ : Unit) t => ∃ D' : Nat → Nat → Int32, MOK D' rc M ((L1, L2, L3, L4), (jar :: P), bo, nA, nH, nP, nM, KA, TA) ∧ gat G [(cI, .int), (cR, .array .int)] (va_A [(mo, .inr (3, [.int th, .ref rr, .ref si, .ref nb, .ref ak, .ref ha])), (rr, .inl (cR, 7, .inr (.inr (.inr (.inr (RW [b0, b1, b2, b3, b4, b5, b6])))))), (si, .inl (cI, 7, .inl (D 0))), (nb, .inl (cI, 6, .inl (D 1))), (ak, .inl (cI, 30, .inl (D 2))), (ha, .inl (cI, 30, .inl (D 3))), (b0, .inl (cI, 31, .inl (D 4))), (b1, .inl (cI, 31, .inl (D 5))), (b2, .inl (cI, 31, .inl (D 6))), (b3, .inl (cI, 31, .inl (D 7))), (b4, .inl (cI, 31, .inl (D 8))), (b5, .inl (cI, 31, .inl (D 9))), (b6, .inl (cI, 31, .inl (D 10)))] sz) [(mo, .inr (3, [.int th, .ref rr, .ref si, .ref nb, .ref ak, .ref ha])), (rr, .inl (cR, 7, .inr (.inr (.inr (.inr (RW [b0, b1, b2, b3, b4, b5, b6])))))), (si, .inl (cI, 7, .inl (D' 0))), (nb, .inl (cI, 6, .inl (D' 1))), (ak, .inl (cI, 30, .inl (D' 2))), (ha, .inl (cI, 30, .inl (D' 3))), (b0, .inl (cI, 31, .inl (D' 4))), (b1, .inl (cI, 31, .inl (D' 5))), (b2, .inl (cI, 31, .inl (D' 6))), (b3, .inl (cI, 31, .inl (D' 7))), (b4, .inl (cI, 31, .inl (D' 8))), (b5, .inl (cI, 31, .inl (D' 9))), (b6, .inl (cI, 31, .inl (D' 10)))] t) (va_A [(mo, .inr (3, [.int th, .ref rr, .ref si, .ref nb, .ref ak, .ref ha])), (rr, .inl (cR, 7, .inr (.inr (.inr (.inr (RW [b0, b1, b2, b3, b4, b5, b6])))))), (si, .inl (cI, 7, .inl (D 0))), (nb, .inl (cI, 6, .inl (D 1))), (ak, .inl (cI, 30, .inl (D 2))), (ha, .inl (cI, 30, .inl (D 3))), (b0, .inl (cI, 31, .inl (D 4))), (b1, .inl (cI, 31, .inl (D 5))), (b2, .inl (cI, 31, .inl (D 6))), (b3, .inl (cI, 31, .inl (D 7))), (b4, .inl (cI, 31, .inl (D 8))), (b5, .inl (cI, 31, .inl (D 9))), (b6, .inl (cI, 31, .inl (D 10)))] sz)) 0 0 (va_A [(mo, .inr (3, [.int th, .ref rr, .ref si, .ref nb, .ref ak, .ref ha])), (rr, .inl (cR, 7, .inr (.inr (.inr (.inr (RW [b0, b1, b2, b3, b4, b5, b6])))))), (si, .inl (cI, 7, .inl (D 0))), (nb, .inl (cI, 6, .inl (D 1))), (ak, .inl (cI, 30, .inl (D 2))), (ha, .inl (cI, 30, .inl (D 3))), (b0, .inl (cI, 31, .inl (D 4))), (b1, .inl (cI, 31, .inl (D 5))), (b2, .inl (cI, 31, .inl (D 6))), (b3, .inl (cI, 31, .inl (D 7))), (b4, .inl (cI, 31, .inl (D 8))), (b5, .inl (cI, 31, .inl (D 9))), (b6, .inl (cI, 31, .inl (D 10)))] sz) := by
  refine Met.ofW (cc := cX3_toFront) (maxL := 3) (ret := none) (by decide) rfl ?_
  intro p e s m args below meth c s₁ B hml hv
  obtain ⟨rfl, hsz, hP, hK, hD0⟩ := hv
  have hx := B.exec
  have hb := B.bytes
  have hr := B.returns
  have hts := atoms_spec (ws := wsX3_toFront) B.pre
  have hown : s.vm.findClass RX3 = some m.cls := findClass_of_methodNamed B.named
  have hlocks := B.notSynchronized
  subst hsz
  have hD := hD0.self (sz := s.heap.size)
  clear hD0
  generalize hAe : va_A [(mo, .inr (3, [.int th, .ref rr, .ref si, .ref nb, .ref ak, .ref ha])), (rr, .inl (cR, 7, .inr (.inr (.inr (.inr (RW [b0, b1, b2, b3, b4, b5, b6])))))), (si, .inl (cI, 7, .inl (D 0))), (nb, .inl (cI, 6, .inl (D 1))), (ak, .inl (cI, 30, .inl (D 2))), (ha, .inl (cI, 30, .inl (D 3))), (b0, .inl (cI, 31, .inl (D 4))), (b1, .inl (cI, 31, .inl (D 5))), (b2, .inl (cI, 31, .inl (D 6))), (b3, .inl (cI, 31, .inl (D 7))), (b4, .inl (cI, 31, .inl (D 8))), (b5, .inl (cI, 31, .inl (D 9))), (b6, .inl (cI, 31, .inl (D 10)))] s.heap.size = A at hD ⊢
  have hA : ∀ q : Nat, s.heap.size ≤ q → A q := fun q h => by rw [← hAe]; exact Or.inr h
  have hS : va_S A s.heap s.heap [] := va_S.rf
  have hP : va_P G vwCl [(mo, .inr (3, [.int th, .ref rr, .ref si, .ref nb, .ref ak, .ref ha])), (rr, .inl (cR, 7, .inr (.inr (.inr (.inr (RW [b0, b1, b2, b3, b4, b5, b6])))))), (si, .inl (cI, 7, .inl (D 0))), (nb, .inl (cI, 6, .inl (D 1))), (ak, .inl (cI, 30, .inl (D 2))), (ha, .inl (cI, 30, .inl (D 3))), (b0, .inl (cI, 31, .inl (D 4))), (b1, .inl (cI, 31, .inl (D 5))), (b2, .inl (cI, 31, .inl (D 6))), (b3, .inl (cI, 31, .inl (D 7))), (b4, .inl (cI, 31, .inl (D 8))), (b5, .inl (cI, 31, .inl (D 9))), (b6, .inl (cI, 31, .inl (D 10)))] s.heap := hP
  have hl := lv_entry ([.ref mo, .int (nI 5), .int jar]) (n := 3) (Nat.le_of_ble_eq_true rfl)
  rw [lg_entry_eq]
  generalize (lg_sl ([.ref mo, .int (nI 5), .int jar]) ++ List.replicate (3 - (lg_sl ([.ref mo, .int (nI 5), .int jar])).length) Slot.unset).toArray = ls at hl ⊢
  have hl : lv_has ls 3 [(0, .ref mo), (1, .int (nI 5)), (2, .int jar)] := hl
  refine lv_aload_n hx hb dX3_toFront_0 rfl (lv_at hl 0 rfl) ?_
  refine va_get (D := G) (ci := 3) (v := .ref rr) (C := RX3) (T := TX3) (N := 6) hx hb hts iX3_toFront_X3 hown hK hP 0 rfl rfl 1 (by decide) (hts (.fieldLink RX3 11 "GhostPantryModel" "rows" "[[I") (by decide +kernel)) (fun _ h9 => h9) rfl dX3_toFront_1 ?_
  refine lv_iload_n hx hb dX3_toFront_4 rfl (lv_at hl 1 rfl) ?_
  refine g_aald hx hb hK hP 1 1 rfl rfl (i := 5) (by decide) (by decide) dX3_toFront_5 (b := b5) (rfl) ?_
  refine lv_iconst (v := (nI 0)) hx hb dX3_toFront_6 (by decide +kernel) ?_
  refine lv_aload_n hx hb dX3_toFront_7 rfl (lv_at hl 0 rfl) ?_
  refine va_get (D := G) (ci := 3) (v := .ref rr) (C := RX3) (T := TX3) (N := 6) hx hb hts iX3_toFront_X3 hown hK hP 0 rfl rfl 1 (by decide) (hts (.fieldLink RX3 11 "GhostPantryModel" "rows" "[[I") (by decide +kernel)) (fun _ h9 => h9) rfl dX3_toFront_8 ?_
  refine lv_iload_n hx hb dX3_toFront_11 rfl (lv_at hl 1 rfl) ?_
  refine g_aald hx hb hK hP 1 1 rfl rfl (i := 5) (by decide) (by decide) dX3_toFront_12 (b := b5) (rfl) ?_
  refine lv_iconst (v := (nI 1)) hx hb dX3_toFront_13 (by decide +kernel) ?_
  refine lv_aload_n hx hb dX3_toFront_14 rfl (lv_at hl 0 rfl) ?_
  refine va_get (D := G) (ci := 3) (v := .ref si) (C := RX3) (T := TX3) (N := 6) hx hb hts iX3_toFront_X3 hown hK hP 0 rfl rfl 2 (by decide) (hts (.fieldLink RX3 14 "GhostPantryModel" "sizes" "[I") (by decide +kernel)) (fun _ h9 => h9) rfl dX3_toFront_15 ?_
  refine lv_iload_n hx hb dX3_toFront_18 rfl (lv_at hl 1 rfl) ?_
  refine g_iald hx hb hK hP 2 0 rfl rfl (i := 5) (by decide) (by decide) dX3_toFront_19 (v := (nI P.length)) (hM.2.2.2.2.2.2.2.2.2.2.1) ?_
  refine g_copyi hx hb (hml.trans hl.1.symm) hown (hts (.methodLink RX3 39 arraycopyName) (by decide +kernel)) (hts (.native arraycopyName) (by decide +kernel)) (hts (.static arraycopyName) (by decide +kernel)) (hts (.initialized "java/lang/System") (by decide +kernel)) hK hP hD hS 11 11 0 rfl rfl rfl (sp := 0) (dp := 1) (n := P.length) (by decide) (by decide) (by omega) (by omega) (by omega) (Nat.le_of_ble_eq_true rfl) (Nat.le_of_ble_eq_true rfl) dX3_toFront_20 (fun H_1 locs hP1 hD1 hS1 => ?_)
  clear hP hD hS
  have hP : va_P G vwCl [(mo, .inr (3, [.int th, .ref rr, .ref si, .ref nb, .ref ak, .ref ha])), (rr, .inl (cR, 7, .inr (.inr (.inr (.inr (RW [b0, b1, b2, b3, b4, b5, b6])))))), (si, .inl (cI, 7, .inl (D 0))), (nb, .inl (cI, 6, .inl (D 1))), (ak, .inl (cI, 30, .inl (D 2))), (ha, .inl (cI, 30, .inl (D 3))), (b0, .inl (cI, 31, .inl (D 4))), (b1, .inl (cI, 31, .inl (D 5))), (b2, .inl (cI, 31, .inl (D 6))), (b3, .inl (cI, 31, .inl (D 7))), (b4, .inl (cI, 31, .inl (D 8))), (b5, .inl (cI, 31, .inl (va_cpy (D 9) (D 9) 0 1 P.length))), (b6, .inl (cI, 31, .inl (D 10)))] H_1 := hP1
  have hD : va_D A [(mo, .inr (3, [.int th, .ref rr, .ref si, .ref nb, .ref ak, .ref ha])), (rr, .inl (cR, 7, .inr (.inr (.inr (.inr (RW [b0, b1, b2, b3, b4, b5, b6])))))), (si, .inl (cI, 7, .inl (D 0))), (nb, .inl (cI, 6, .inl (D 1))), (ak, .inl (cI, 30, .inl (D 2))), (ha, .inl (cI, 30, .inl (D 3))), (b0, .inl (cI, 31, .inl (D 4))), (b1, .inl (cI, 31, .inl (D 5))), (b2, .inl (cI, 31, .inl (D 6))), (b3, .inl (cI, 31, .inl (D 7))), (b4, .inl (cI, 31, .inl (D 8))), (b5, .inl (cI, 31, .inl (va_cpy (D 9) (D 9) 0 1 P.length))), (b6, .inl (cI, 31, .inl (D 10)))] := hD1
  have hS := hS1
  clear hP1 hD1 hS1
  refine lv_aload_n hx hb dX3_toFront_23 rfl (lv_at hl 0 rfl) ?_
  refine va_get (D := G) (ci := 3) (v := .ref rr) (C := RX3) (T := TX3) (N := 6) hx hb hts iX3_toFront_X3 hown hK hP 0 rfl rfl 1 (by decide) (hts (.fieldLink RX3 11 "GhostPantryModel" "rows" "[[I") (by decide +kernel)) (fun _ h9 => h9) rfl dX3_toFront_24 ?_
  refine lv_iload_n hx hb dX3_toFront_27 rfl (lv_at hl 1 rfl) ?_
  refine g_aald hx hb hK hP 1 1 rfl rfl (i := 5) (by decide) (by decide) dX3_toFront_28 (b := b5) (rfl) ?_
  refine lv_iconst (v := (nI 0)) hx hb dX3_toFront_29 (by decide +kernel) ?_
  refine lv_iload_n hx hb dX3_toFront_30 rfl (lv_at hl 2 rfl) ?_
  refine g_iast hx hb hK hP hD hS 11 0 rfl rfl (i := 0) (x := jar) (by decide) (by decide) dX3_toFront_31 (fun H_2 locs hP1 hD1 hS1 => ?_)
  clear hP hD hS
  have hP : va_P G vwCl [(mo, .inr (3, [.int th, .ref rr, .ref si, .ref nb, .ref ak, .ref ha])), (rr, .inl (cR, 7, .inr (.inr (.inr (.inr (RW [b0, b1, b2, b3, b4, b5, b6])))))), (si, .inl (cI, 7, .inl (D 0))), (nb, .inl (cI, 6, .inl (D 1))), (ak, .inl (cI, 30, .inl (D 2))), (ha, .inl (cI, 30, .inl (D 3))), (b0, .inl (cI, 31, .inl (D 4))), (b1, .inl (cI, 31, .inl (D 5))), (b2, .inl (cI, 31, .inl (D 6))), (b3, .inl (cI, 31, .inl (D 7))), (b4, .inl (cI, 31, .inl (D 8))), (b5, .inl (cI, 31, .inl (upd (va_cpy (D 9) (D 9) 0 1 P.length) 0 jar))), (b6, .inl (cI, 31, .inl (D 10)))] H_2 := hP1
  have hD : va_D A [(mo, .inr (3, [.int th, .ref rr, .ref si, .ref nb, .ref ak, .ref ha])), (rr, .inl (cR, 7, .inr (.inr (.inr (.inr (RW [b0, b1, b2, b3, b4, b5, b6])))))), (si, .inl (cI, 7, .inl (D 0))), (nb, .inl (cI, 6, .inl (D 1))), (ak, .inl (cI, 30, .inl (D 2))), (ha, .inl (cI, 30, .inl (D 3))), (b0, .inl (cI, 31, .inl (D 4))), (b1, .inl (cI, 31, .inl (D 5))), (b2, .inl (cI, 31, .inl (D 6))), (b3, .inl (cI, 31, .inl (D 7))), (b4, .inl (cI, 31, .inl (D 8))), (b5, .inl (cI, 31, .inl (upd (va_cpy (D 9) (D 9) 0 1 P.length) 0 jar))), (b6, .inl (cI, 31, .inl (D 10)))] := hD1
  have hS := hS1
  clear hP1 hD1 hS1
  refine lv_aload_n hx hb dX3_toFront_32 rfl (lv_at hl 0 rfl) ?_
  refine va_get (D := G) (ci := 3) (v := .ref si) (C := RX3) (T := TX3) (N := 6) hx hb hts iX3_toFront_X3 hown hK hP 0 rfl rfl 2 (by decide) (hts (.fieldLink RX3 14 "GhostPantryModel" "sizes" "[I") (by decide +kernel)) (fun _ h9 => h9) rfl dX3_toFront_33 ?_
  refine lv_iload_n hx hb dX3_toFront_36 rfl (lv_at hl 1 rfl) ?_
  refine lv_dup2_11 hx hb dX3_toFront_37 rfl rfl ?_
  refine g_iald hx hb hK hP 2 0 rfl rfl (i := 5) (by decide) (by decide) dX3_toFront_38 (v := (nI P.length)) (hM.2.2.2.2.2.2.2.2.2.2.1) ?_
  refine lv_iconst (v := (nI 1)) hx hb dX3_toFront_39 (by decide +kernel) ?_
  refine g_iadd hx hb dX3_toFront_40 ?_
  refine g_iast hx hb hK hP hD hS 2 0 rfl rfl (i := 5) (x := (nI (P.length + 1))) (by decide) (by decide) dX3_toFront_41 (fun H_3 locs hP1 hD1 hS1 => ?_)
  clear hP hD hS
  have hP : va_P G vwCl [(mo, .inr (3, [.int th, .ref rr, .ref si, .ref nb, .ref ak, .ref ha])), (rr, .inl (cR, 7, .inr (.inr (.inr (.inr (RW [b0, b1, b2, b3, b4, b5, b6])))))), (si, .inl (cI, 7, .inl (upd (D 0) 5 (nI (P.length + 1))))), (nb, .inl (cI, 6, .inl (D 1))), (ak, .inl (cI, 30, .inl (D 2))), (ha, .inl (cI, 30, .inl (D 3))), (b0, .inl (cI, 31, .inl (D 4))), (b1, .inl (cI, 31, .inl (D 5))), (b2, .inl (cI, 31, .inl (D 6))), (b3, .inl (cI, 31, .inl (D 7))), (b4, .inl (cI, 31, .inl (D 8))), (b5, .inl (cI, 31, .inl (upd (va_cpy (D 9) (D 9) 0 1 P.length) 0 jar))), (b6, .inl (cI, 31, .inl (D 10)))] H_3 := hP1
  have hD : va_D A [(mo, .inr (3, [.int th, .ref rr, .ref si, .ref nb, .ref ak, .ref ha])), (rr, .inl (cR, 7, .inr (.inr (.inr (.inr (RW [b0, b1, b2, b3, b4, b5, b6])))))), (si, .inl (cI, 7, .inl (upd (D 0) 5 (nI (P.length + 1))))), (nb, .inl (cI, 6, .inl (D 1))), (ak, .inl (cI, 30, .inl (D 2))), (ha, .inl (cI, 30, .inl (D 3))), (b0, .inl (cI, 31, .inl (D 4))), (b1, .inl (cI, 31, .inl (D 5))), (b2, .inl (cI, 31, .inl (D 6))), (b3, .inl (cI, 31, .inl (D 7))), (b4, .inl (cI, 31, .inl (D 8))), (b5, .inl (cI, 31, .inl (upd (va_cpy (D 9) (D 9) 0 1 P.length) 0 jar))), (b6, .inl (cI, 31, .inl (D 10)))] := hD1
  have hS := hS1
  clear hP1 hD1 hS1
  have hP9 := hP.sub (ws' := [(mo, .inr (3, [.int th, .ref rr, .ref si, .ref nb, .ref ak, .ref ha])), (rr, .inl (cR, 7, .inr (.inr (.inr (.inr (RW [b0, b1, b2, b3, b4, b5, b6])))))), (si, .inl (cI, 7, .inl (upd (D 0) 5 (nI (P.length + 1))))), (nb, .inl (cI, 6, .inl (D 1))), (ak, .inl (cI, 30, .inl (D 2))), (ha, .inl (cI, 30, .inl (D 3))), (b0, .inl (cI, 31, .inl (D 4))), (b1, .inl (cI, 31, .inl (D 5))), (b2, .inl (cI, 31, .inl (D 6))), (b3, .inl (cI, 31, .inl (D 7))), (b4, .inl (cI, 31, .inl (D 8))), (b5, .inl (cI, 31, .inl (upd (va_cpy (D 9) (D 9) 0 1 P.length) 0 jar))), (b6, .inl (cI, 31, .inl (D 10)))]) [0, 1, 2, 3, 4, 5, 6, 7, 8, 9, 10, 11, 12] rfl
  have hD9 := hD.sub (ws' := [(mo, .inr (3, [.int th, .ref rr, .ref si, .ref nb, .ref ak, .ref ha])), (rr, .inl (cR, 7, .inr (.inr (.inr (.inr (RW [b0, b1, b2, b3, b4, b5, b6])))))), (si, .inl (cI, 7, .inl (upd (D 0) 5 (nI (P.length + 1))))), (nb, .inl (cI, 6, .inl (D 1))), (ak, .inl (cI, 30, .inl (D 2))), (ha, .inl (cI, 30, .inl (D 3))), (b0, .inl (cI, 31, .inl (D 4))), (b1, .inl (cI, 31, .inl (D 5))), (b2, .inl (cI, 31, .inl (D 6))), (b3, .inl (cI, 31, .inl (D 7))), (b4, .inl (cI, 31, .inl (D 8))), (b5, .inl (cI, 31, .inl (upd (va_cpy (D 9) (D 9) 0 1 P.length) 0 jar))), (b6, .inl (cI, 31, .inl (D 10)))]) [0, 1, 2, 3, 4, 5, 6, 7, 8, 9, 10, 11, 12] (by decide) rfl
  exact W.vret hx hb hr (fun t ht hW => ⟨⟨(), rfl, trivial, (dat (upd (D 0) 5 (nI (P.length + 1))) (D 1) (D 2) (D 3) (D 4) (D 5) (D 6) (D 7) (D 8) (upd (va_cpy (D 9) (D 9) 0 1 P.length) 0 jar) (D 10)), ⟨hM.1, hM.2.1, hM.2.2.1, hM.2.2.2.1, (Rw_cons jar hM.2.2.2.2.1), hM.2.2.2.2.2.1, hM.2.2.2.2.2.2.1, hM.2.2.2.2.2.2.2.1, hM.2.2.2.2.2.2.2.2.1, hM.2.2.2.2.2.2.2.2.2.1, rfl, hM.2.2.2.2.2.2.2.2.2.2.2.1, hM.2.2.2.2.2.2.2.2.2.2.2.2.1, hM.2.2.2.2.2.2.2.2.2.2.2.2.2.1, hM.2.2.2.2.2.2.2.2.2.2.2.2.2.2.1, hM.2.2.2.2.2.2.2.2.2.2.2.2.2.2.2.1, hM.2.2.2.2.2.2.2.2.2.2.2.2.2.2.2.2.1, hM.2.2.2.2.2.2.2.2.2.2.2.2.2.2.2.2.2.1, hM.2.2.2.2.2.2.2.2.2.2.2.2.2.2.2.2.2.2.1, hM.2.2.2.2.2.2.2.2.2.2.2.2.2.2.2.2.2.2.2⟩, g_at hP9 hK hD9 ht hW⟩, hS.F ht⟩) hS.2.2 dX3_toFront_42

set_option maxHeartbeats 4000000 in
set_option maxRecDepth 100000 in
theorem c_X3_takeOut_5 (l : Launch) (G : va_G) (cI cR : ClassId) (mo rr si nb ak ha b0 b1 b2 b3 b4 b5 b6 : Nat) (th : Int32) (D : Nat → Nat → Int32) (L1 L2 L3 L4 P M : List Int32) (rc bo : Nat) (nA nH nP nM : Int32) (KA TA : Nat → Int32) (hM : MOK D rc M ((L1, L2, L3, L4), P, bo, nA, nH, nP, nM, KA, TA)) (pl : Nat) (hp : pl < P.length) (h30 : P.length ≤ 30) (sz : Nat) : Met l yX3_takeOut wsX3_takeOut ({ frames := 1, cells := 0, slots := 0, locals := 18 }) (va_Pc [.ref mo, .int (nI 5), .int (nI pl)] (gpre G [(cI, .int), (cR, .array .int)] [(mo, .inr (3, [.int th, .ref rr, .ref si, .ref nb, .ref ak, .ref ha])), (rr, .inl (cR, 7, .inr (.inr (.inr (.inr (RW [b0, b1, b2, b3, b4, b5, b6])))))), (si, .inl (cI, 7, .inl (D 0))), (nb, .inl (cI, 6, .inl (D 1))), (ak, .inl (cI, 30, .inl (D 2))), (ha, .inl (cI, 30, .inl (D 3))), (b0, .inl (cI, 31, .inl (D 4))), (b1, .inl (cI, 31, .inl (D 5))), (b2, .inl (cI, 31, .inl (D 6))), (b3, .inl (cI, 31, .inl (D 7))), (b4, .inl (cI, 31, .inl (D 8))), (b5, .inl (cI, 31, .inl (D 9))), (b6, .inl (cI, 31, .inl (D 10)))] sz)) (va_Qv (fun (_ : Unit) => True) (fun (_ : Unit) t => ∃ D' : Nat → Nat → Int32, MOK D' rc M ((L1, L2, L3, L4), (P.eraseIdx pl), bo, nA, nH, nP, nM, KA, TA) ∧ gat G [(cI, .int), (cR, .array .int)] (va_A [(mo, .inr (3, [.int th, .ref rr, .ref si, .ref nb, .ref ak, .ref ha])), (rr, .inl (cR, 7, .inr (.inr (.inr (.inr (RW [b0, b1, b2, b3, b4, b5, b6])))))), (si, .inl (cI, 7, .inl (D 0))), (nb, .inl (cI, 6, .inl (D 1))), (ak, .inl (cI, 30, .inl (D 2))), (ha, .inl (cI, 30, .inl (D 3))), (b0, .inl (cI, 31, .inl (D 4))), (b1, .inl (cI, 31, .inl (D 5))), (b2, .inl (cI, 31, .inl (D 6))), (b3, .inl (cI, 31, .inl (D 7))), (b4, .inl (cI, 31, .inl (D 8))), (b5, .inl (cI, 31, .inl (D 9))), (b6, .inl (cI, 31, .inl (D 10)))] sz) [(mo, .inr (3, [.int th, .ref rr, .ref si, .ref nb, .ref ak, .ref ha])), (rr, .inl (cR, 7, .inr (.inr (.inr (.inr (RW [b0, b1, b2, b3, b4, b5, b6])))))), (si, .inl (cI, 7, .inl (D' 0))), (nb, .inl (cI, 6, .inl (D' 1))), (ak, .inl (cI, 30, .inl (D' 2))), (ha, .inl (cI, 30, .inl (D' 3))), (b0, .inl (cI, 31, .inl (D' 4))), (b1, .inl (cI, 31, .inl (D' 5))), (b2, .inl (cI, 31, .inl (D' 6))), (b3, .inl (cI, 31, .inl (D' 7))), (b4, .inl (cI, 31, .inl (D' 8))), (b5, .inl (cI, 31, .inl (D' 9))), (b6, .inl (cI, 31, .inl (D' 10)))] t) (va_A [(mo, .inr (3, [.int th, .ref rr, .ref si, .ref nb, .ref ak, .ref ha])), (rr, .inl (cR, 7, .inr (.inr (.inr (.inr (RW [b0, b1, b2, b3, b4, b5, b6])))))), (si, .inl (cI, 7, .inl (D 0))), (nb, .inl (cI, 6, .inl (D 1))), (ak, .inl (cI, 30, .inl (D 2))), (ha, .inl (cI, 30, .inl (D 3))), (b0, .inl (cI, 31, .inl (D 4))), (b1, .inl (cI, 31, .inl (D 5))), (b2, .inl (cI, 31, .inl (D 6))), (b3, .inl (cI, 31, .inl (D 7))), (b4, .inl (cI, 31, .inl (D 8))), (b5, .inl (cI, 31, .inl (D 9))), (b6, .inl (cI, 31, .inl (D 10)))] sz)) 0 0 (va_A [(mo, .inr (3, [.int th, .ref rr, .ref si, .ref nb, .ref ak, .ref ha])), (rr, .inl (cR, 7, .inr (.inr (.inr (.inr (RW [b0, b1, b2, b3, b4, b5, b6])))))), (si, .inl (cI, 7, .inl (D 0))), (nb, .inl (cI, 6, .inl (D 1))), (ak, .inl (cI, 30, .inl (D 2))), (ha, .inl (cI, 30, .inl (D 3))), (b0, .inl (cI, 31, .inl (D 4))), (b1, .inl (cI, 31, .inl (D 5))), (b2, .inl (cI, 31, .inl (D 6))), (b3, .inl (cI, 31, .inl (D 7))), (b4, .inl (cI, 31, .inl (D 8))), (b5, .inl (cI, 31, .inl (D 9))), (b6, .inl (cI, 31, .inl (D 10)))] sz) := by
  refine Met.ofW (cc := cX3_takeOut) (maxL := 3) (ret := none) (by decide) rfl ?_
  intro p e s m args below meth c s₁ B hml hv
  obtain ⟨rfl, hsz, hP, hK, hD0⟩ := hv
  have hx := B.exec
  have hb := B.bytes
  have hr := B.returns
  have hts := atoms_spec (ws := wsX3_takeOut) B.pre
  have hown : s.vm.findClass RX3 = some m.cls := findClass_of_methodNamed B.named
  have hlocks := B.notSynchronized
  subst hsz
  have hD := hD0.self (sz := s.heap.size)
  clear hD0
  generalize hAe : va_A [(mo, .inr (3, [.int th, .ref rr, .ref si, .ref nb, .ref ak, .ref ha])), (rr, .inl (cR, 7, .inr (.inr (.inr (.inr (RW [b0, b1, b2, b3, b4, b5, b6])))))), (si, .inl (cI, 7, .inl (D 0))), (nb, .inl (cI, 6, .inl (D 1))), (ak, .inl (cI, 30, .inl (D 2))), (ha, .inl (cI, 30, .inl (D 3))), (b0, .inl (cI, 31, .inl (D 4))), (b1, .inl (cI, 31, .inl (D 5))), (b2, .inl (cI, 31, .inl (D 6))), (b3, .inl (cI, 31, .inl (D 7))), (b4, .inl (cI, 31, .inl (D 8))), (b5, .inl (cI, 31, .inl (D 9))), (b6, .inl (cI, 31, .inl (D 10)))] s.heap.size = A at hD ⊢
  have hA : ∀ q : Nat, s.heap.size ≤ q → A q := fun q h => by rw [← hAe]; exact Or.inr h
  have hS : va_S A s.heap s.heap [] := va_S.rf
  have hP : va_P G vwCl [(mo, .inr (3, [.int th, .ref rr, .ref si, .ref nb, .ref ak, .ref ha])), (rr, .inl (cR, 7, .inr (.inr (.inr (.inr (RW [b0, b1, b2, b3, b4, b5, b6])))))), (si, .inl (cI, 7, .inl (D 0))), (nb, .inl (cI, 6, .inl (D 1))), (ak, .inl (cI, 30, .inl (D 2))), (ha, .inl (cI, 30, .inl (D 3))), (b0, .inl (cI, 31, .inl (D 4))), (b1, .inl (cI, 31, .inl (D 5))), (b2, .inl (cI, 31, .inl (D 6))), (b3, .inl (cI, 31, .inl (D 7))), (b4, .inl (cI, 31, .inl (D 8))), (b5, .inl (cI, 31, .inl (D 9))), (b6, .inl (cI, 31, .inl (D 10)))] s.heap := hP
  have hl := lv_entry ([.ref mo, .int (nI 5), .int (nI pl)]) (n := 3) (Nat.le_of_ble_eq_true rfl)
  rw [lg_entry_eq]
  generalize (lg_sl ([.ref mo, .int (nI 5), .int (nI pl)]) ++ List.replicate (3 - (lg_sl ([.ref mo, .int (nI 5), .int (nI pl)])).length) Slot.unset).toArray = ls at hl ⊢
  have hl : lv_has ls 3 [(0, .ref mo), (1, .int (nI 5)), (2, .int (nI pl))] := hl
  refine lv_aload_n hx hb dX3_takeOut_0 rfl (lv_at hl 0 rfl) ?_
  refine va_get (D := G) (ci := 3) (v := .ref si) (C := RX3) (T := TX3) (N := 6) hx hb hts iX3_takeOut_X3 hown hK hP 0 rfl rfl 2 (by decide) (hts (.fieldLink RX3 14 "GhostPantryModel" "sizes" "[I") (by decide +kernel)) (fun _ h9 => h9) rfl dX3_takeOut_1 ?_
  refine lv_iload_n hx hb dX3_takeOut_4 rfl (lv_at hl 1 rfl) ?_
  refine lv_dup2_11 hx hb dX3_takeOut_5 rfl rfl ?_
  refine g_iald hx hb hK hP 2 0 rfl rfl (i := 5) (by decide) (by decide) dX3_takeOut_6 (v := (nI P.length)) (hM.2.2.2.2.2.2.2.2.2.2.1) ?_
  refine lv_iconst (v := (nI 1)) hx hb dX3_takeOut_7 (by decide +kernel) ?_
  refine g_isub hx hb dX3_takeOut_8 (by omega) ?_
  refine g_iast hx hb hK hP hD hS 2 0 rfl rfl (i := 5) (x := (nI (P.length - 1))) (by decide) (by decide) dX3_takeOut_9 (fun H_1 locs hP1 hD1 hS1 => ?_)
  clear hP hD hS
  have hP : va_P G vwCl [(mo, .inr (3, [.int th, .ref rr, .ref si, .ref nb, .ref ak, .ref ha])), (rr, .inl (cR, 7, .inr (.inr (.inr (.inr (RW [b0, b1, b2, b3, b4, b5, b6])))))), (si, .inl (cI, 7, .inl (upd (D 0) 5 (nI (P.length - 1))))), (nb, .inl (cI, 6, .inl (D 1))), (ak, .inl (cI, 30, .inl (D 2))), (ha, .inl (cI, 30, .inl (D 3))), (b0, .inl (cI, 31, .inl (D 4))), (b1, .inl (cI, 31, .inl (D 5))), (b2, .inl (cI, 31, .inl (D 6))), (b3, .inl (cI, 31, .inl (D 7))), (b4, .inl (cI, 31, .inl (D 8))), (b5, .inl (cI, 31, .inl (D 9))), (b6, .inl (cI, 31, .inl (D 10)))] H_1 := hP1
  have hD : va_D A [(mo, .inr (3, [.int th, .ref rr, .ref si, .ref nb, .ref ak, .ref ha])), (rr, .inl (cR, 7, .inr (.inr (.inr (.inr (RW [b0, b1, b2, b3, b4, b5, b6])))))), (si, .inl (cI, 7, .inl (upd (D 0) 5 (nI (P.length - 1))))), (nb, .inl (cI, 6, .inl (D 1))), (ak, .inl (cI, 30, .inl (D 2))), (ha, .inl (cI, 30, .inl (D 3))), (b0, .inl (cI, 31, .inl (D 4))), (b1, .inl (cI, 31, .inl (D 5))), (b2, .inl (cI, 31, .inl (D 6))), (b3, .inl (cI, 31, .inl (D 7))), (b4, .inl (cI, 31, .inl (D 8))), (b5, .inl (cI, 31, .inl (D 9))), (b6, .inl (cI, 31, .inl (D 10)))] := hD1
  have hS := hS1
  clear hP1 hD1 hS1
  refine lv_aload_n hx hb dX3_takeOut_10 rfl (lv_at hl 0 rfl) ?_
  refine va_get (D := G) (ci := 3) (v := .ref rr) (C := RX3) (T := TX3) (N := 6) hx hb hts iX3_takeOut_X3 hown hK hP 0 rfl rfl 1 (by decide) (hts (.fieldLink RX3 11 "GhostPantryModel" "rows" "[[I") (by decide +kernel)) (fun _ h9 => h9) rfl dX3_takeOut_11 ?_
  refine lv_iload_n hx hb dX3_takeOut_14 rfl (lv_at hl 1 rfl) ?_
  refine g_aald hx hb hK hP 1 1 rfl rfl (i := 5) (by decide) (by decide) dX3_takeOut_15 (b := b5) (rfl) ?_
  refine lv_iload_n hx hb dX3_takeOut_16 rfl (lv_at hl 2 rfl) ?_
  refine lv_iconst (v := (nI 1)) hx hb dX3_takeOut_17 (by decide +kernel) ?_
  refine g_iadd hx hb dX3_takeOut_18 ?_
  refine lv_aload_n hx hb dX3_takeOut_19 rfl (lv_at hl 0 rfl) ?_
  refine va_get (D := G) (ci := 3) (v := .ref rr) (C := RX3) (T := TX3) (N := 6) hx hb hts iX3_takeOut_X3 hown hK hP 0 rfl rfl 1 (by decide) (hts (.fieldLink RX3 11 "GhostPantryModel" "rows" "[[I") (by decide +kernel)) (fun _ h9 => h9) rfl dX3_takeOut_20 ?_
  refine lv_iload_n hx hb dX3_takeOut_23 rfl (lv_at hl 1 rfl) ?_
  refine g_aald hx hb hK hP 1 1 rfl rfl (i := 5) (by decide) (by decide) dX3_takeOut_24 (b := b5) (rfl) ?_
  refine lv_iload_n hx hb dX3_takeOut_25 rfl (lv_at hl 2 rfl) ?_
  refine lv_aload_n hx hb dX3_takeOut_26 rfl (lv_at hl 0 rfl) ?_
  refine va_get (D := G) (ci := 3) (v := .ref si) (C := RX3) (T := TX3) (N := 6) hx hb hts iX3_takeOut_X3 hown hK hP 0 rfl rfl 2 (by decide) (hts (.fieldLink RX3 14 "GhostPantryModel" "sizes" "[I") (by decide +kernel)) (fun _ h9 => h9) rfl dX3_takeOut_27 ?_
  refine lv_iload_n hx hb dX3_takeOut_30 rfl (lv_at hl 1 rfl) ?_
  refine g_iald hx hb hK hP 2 0 rfl rfl (i := 5) (by decide) (by decide) dX3_takeOut_31 (v := (nI (P.length - 1))) (rfl) ?_
  refine lv_iload_n hx hb dX3_takeOut_32 rfl (lv_at hl 2 rfl) ?_
  refine g_isub hx hb dX3_takeOut_33 (by omega) ?_
  refine g_copyi hx hb (hml.trans hl.1.symm) hown (hts (.methodLink RX3 39 arraycopyName) (by decide +kernel)) (hts (.native arraycopyName) (by decide +kernel)) (hts (.static arraycopyName) (by decide +kernel)) (hts (.initialized "java/lang/System") (by decide +kernel)) hK hP hD hS 11 11 0 rfl rfl rfl (sp := (pl + 1)) (dp := pl) (n := ((P.length - 1) - pl)) (by omega) (by omega) (by omega) (by omega) (by omega) (Nat.le_of_ble_eq_true rfl) (Nat.le_of_ble_eq_true rfl) dX3_takeOut_34 (fun H_2 locs hP1 hD1 hS1 => ?_)
  clear hP hD hS
  have hP : va_P G vwCl [(mo, .inr (3, [.int th, .ref rr, .ref si, .ref nb, .ref ak, .ref ha])), (rr, .inl (cR, 7, .inr (.inr (.inr (.inr (RW [b0, b1, b2, b3, b4, b5, b6])))))), (si, .inl (cI, 7, .inl (upd (D 0) 5 (nI (P.length - 1))))), (nb, .inl (cI, 6, .inl (D 1))), (ak, .inl (cI, 30, .inl (D 2))), (ha, .inl (cI, 30, .inl (D 3))), (b0, .inl (cI, 31, .inl (D 4))), (b1, .inl (cI, 31, .inl (D 5))), (b2, .inl (cI, 31, .inl (D 6))), (b3, .inl (cI, 31, .inl (D 7))), (b4, .inl (cI, 31, .inl (D 8))), (b5, .inl (cI, 31, .inl (va_cpy (D 9) (D 9) (pl + 1) pl ((P.length - 1) - pl)))), (b6, .inl (cI, 31, .inl (D 10)))] H_2 := hP1
  have hD : va_D A [(mo, .inr (3, [.int th, .ref rr, .ref si, .ref nb, .ref ak, .ref ha])), (rr, .inl (cR, 7, .inr (.inr (.inr (.inr (RW [b0, b1, b2, b3, b4, b5, b6])))))), (si, .inl (cI, 7, .inl (upd (D 0) 5 (nI (P.length - 1))))), (nb, .inl (cI, 6, .inl (D 1))), (ak, .inl (cI, 30, .inl (D 2))), (ha, .inl (cI, 30, .inl (D 3))), (b0, .inl (cI, 31, .inl (D 4))), (b1, .inl (cI, 31, .inl (D 5))), (b2, .inl (cI, 31, .inl (D 6))), (b3, .inl (cI, 31, .inl (D 7))), (b4, .inl (cI, 31, .inl (D 8))), (b5, .inl (cI, 31, .inl (va_cpy (D 9) (D 9) (pl + 1) pl ((P.length - 1) - pl)))), (b6, .inl (cI, 31, .inl (D 10)))] := hD1
  have hS := hS1
  clear hP1 hD1 hS1
  have hP9 := hP.sub (ws' := [(mo, .inr (3, [.int th, .ref rr, .ref si, .ref nb, .ref ak, .ref ha])), (rr, .inl (cR, 7, .inr (.inr (.inr (.inr (RW [b0, b1, b2, b3, b4, b5, b6])))))), (si, .inl (cI, 7, .inl (upd (D 0) 5 (nI (P.length - 1))))), (nb, .inl (cI, 6, .inl (D 1))), (ak, .inl (cI, 30, .inl (D 2))), (ha, .inl (cI, 30, .inl (D 3))), (b0, .inl (cI, 31, .inl (D 4))), (b1, .inl (cI, 31, .inl (D 5))), (b2, .inl (cI, 31, .inl (D 6))), (b3, .inl (cI, 31, .inl (D 7))), (b4, .inl (cI, 31, .inl (D 8))), (b5, .inl (cI, 31, .inl (va_cpy (D 9) (D 9) (pl + 1) pl ((P.length - 1) - pl)))), (b6, .inl (cI, 31, .inl (D 10)))]) [0, 1, 2, 3, 4, 5, 6, 7, 8, 9, 10, 11, 12] rfl
  have hD9 := hD.sub (ws' := [(mo, .inr (3, [.int th, .ref rr, .ref si, .ref nb, .ref ak, .ref ha])), (rr, .inl (cR, 7, .inr (.inr (.inr (.inr (RW [b0, b1, b2, b3, b4, b5, b6])))))), (si, .inl (cI, 7, .inl (upd (D 0) 5 (nI (P.length - 1))))), (nb, .inl (cI, 6, .inl (D 1))), (ak, .inl (cI, 30, .inl (D 2))), (ha, .inl (cI, 30, .inl (D 3))), (b0, .inl (cI, 31, .inl (D 4))), (b1, .inl (cI, 31, .inl (D 5))), (b2, .inl (cI, 31, .inl (D 6))), (b3, .inl (cI, 31, .inl (D 7))), (b4, .inl (cI, 31, .inl (D 8))), (b5, .inl (cI, 31, .inl (va_cpy (D 9) (D 9) (pl + 1) pl ((P.length - 1) - pl)))), (b6, .inl (cI, 31, .inl (D 10)))]) [0, 1, 2, 3, 4, 5, 6, 7, 8, 9, 10, 11, 12] (by decide) rfl
  exact W.vret hx hb hr (fun t ht hW => ⟨⟨(), rfl, trivial, (dat (upd (D 0) 5 (nI (P.length - 1))) (D 1) (D 2) (D 3) (D 4) (D 5) (D 6) (D 7) (D 8) (va_cpy (D 9) (D 9) (pl + 1) pl ((P.length - 1) - pl)) (D 10)), ⟨hM.1, hM.2.1, hM.2.2.1, hM.2.2.2.1, (Rw_erase2 hM.2.2.2.2.1 hp), hM.2.2.2.2.2.1, hM.2.2.2.2.2.2.1, hM.2.2.2.2.2.2.2.1, hM.2.2.2.2.2.2.2.2.1, hM.2.2.2.2.2.2.2.2.2.1, (congrArg nI (List.length_eraseIdx_of_lt hp).symm), hM.2.2.2.2.2.2.2.2.2.2.2.1, hM.2.2.2.2.2.2.2.2.2.2.2.2.1, hM.2.2.2.2.2.2.2.2.2.2.2.2.2.1, hM.2.2.2.2.2.2.2.2.2.2.2.2.2.2.1, hM.2.2.2.2.2.2.2.2.2.2.2.2.2.2.2.1, hM.2.2.2.2.2.2.2.2.2.2.2.2.2.2.2.2.1, hM.2.2.2.2.2.2.2.2.2.2.2.2.2.2.2.2.2.1, hM.2.2.2.2.2.2.2.2.2.2.2.2.2.2.2.2.2.2.1, hM.2.2.2.2.2.2.2.2.2.2.2.2.2.2.2.2.2.2.2⟩, g_at hP9 hK hD9 ht hW⟩, hS.F ht⟩) hS.2.2 dX3_takeOut_37

set_option maxHeartbeats 4000000 in
set_option maxRecDepth 100000 in
theorem c_X3_last_5 (l : Launch) (G : va_G) (cI cR : ClassId) (mo rr si nb ak ha b0 b1 b2 b3 b4 b5 b6 : Nat) (th : Int32) (D : Nat → Nat → Int32) (L1 L2 L3 L4 P M : List Int32) (rc bo : Nat) (nA nH nP nM : Int32) (KA TA : Nat → Int32) (hM : MOK D rc M ((L1, L2, L3, L4), P, bo, nA, nH, nP, nM, KA, TA)) (h0 : 0 < P.length) (h30 : P.length ≤ 30) (sz : Nat) : Met l yX3_last wsX3_last ({ frames := 0, cells := 0, slots := 0, locals := 0 }) (va_Pc [.ref mo, .int (nI 5)] (gpre G [(cI, .int), (cR, .array .int)] [(mo, .inr (3, [.int th, .ref rr, .ref si, .ref nb, .ref ak, .ref ha])), (rr, .inl (cR, 7, .inr (.inr (.inr (.inr (RW [b0, b1, b2, b3, b4, b5, b6])))))), (si, .inl (cI, 7, .inl (D 0))), (nb, .inl (cI, 6, .inl (D 1))), (ak, .inl (cI, 30, .inl (D 2))), (ha, .inl (cI, 30, .inl (D 3))), (b0, .inl (cI, 31, .inl (D 4))), (b1, .inl (cI, 31, .inl (D 5))), (b2, .inl (cI, 31, .inl (D 6))), (b3, .inl (cI, 31, .inl (D 7))), (b4, .inl (cI, 31, .inl (D 8))), (b5, .inl (cI, 31, .inl (D 9))), (b6, .inl (cI, 31, .inl (D 10)))] sz)) (va_Qi (fun (z : Int32) (_ : Unit) => z = lst P) (fun (_ : Unit) t => ∃ D' : Nat → Nat → Int32, MOK D' rc M ((L1, L2, L3, L4), P.dropLast, bo, nA, nH, nP, nM, KA, TA) ∧ gat G [(cI, .int), (cR, .array .int)] (va_A [(mo, .inr (3, [.int th, .ref rr, .ref si, .ref nb, .ref ak, .ref ha])), (rr, .inl (cR, 7, .inr (.inr (.inr (.inr (RW [b0, b1, b2, b3, b4, b5, b6])))))), (si, .inl (cI, 7, .inl (D 0))), (nb, .inl (cI, 6, .inl (D 1))), (ak, .inl (cI, 30, .inl (D 2))), (ha, .inl (cI, 30, .inl (D 3))), (b0, .inl (cI, 31, .inl (D 4))), (b1, .inl (cI, 31, .inl (D 5))), (b2, .inl (cI, 31, .inl (D 6))), (b3, .inl (cI, 31, .inl (D 7))), (b4, .inl (cI, 31, .inl (D 8))), (b5, .inl (cI, 31, .inl (D 9))), (b6, .inl (cI, 31, .inl (D 10)))] sz) [(mo, .inr (3, [.int th, .ref rr, .ref si, .ref nb, .ref ak, .ref ha])), (rr, .inl (cR, 7, .inr (.inr (.inr (.inr (RW [b0, b1, b2, b3, b4, b5, b6])))))), (si, .inl (cI, 7, .inl (D' 0))), (nb, .inl (cI, 6, .inl (D' 1))), (ak, .inl (cI, 30, .inl (D' 2))), (ha, .inl (cI, 30, .inl (D' 3))), (b0, .inl (cI, 31, .inl (D' 4))), (b1, .inl (cI, 31, .inl (D' 5))), (b2, .inl (cI, 31, .inl (D' 6))), (b3, .inl (cI, 31, .inl (D' 7))), (b4, .inl (cI, 31, .inl (D' 8))), (b5, .inl (cI, 31, .inl (D' 9))), (b6, .inl (cI, 31, .inl (D' 10)))] t) (va_A [(mo, .inr (3, [.int th, .ref rr, .ref si, .ref nb, .ref ak, .ref ha])), (rr, .inl (cR, 7, .inr (.inr (.inr (.inr (RW [b0, b1, b2, b3, b4, b5, b6])))))), (si, .inl (cI, 7, .inl (D 0))), (nb, .inl (cI, 6, .inl (D 1))), (ak, .inl (cI, 30, .inl (D 2))), (ha, .inl (cI, 30, .inl (D 3))), (b0, .inl (cI, 31, .inl (D 4))), (b1, .inl (cI, 31, .inl (D 5))), (b2, .inl (cI, 31, .inl (D 6))), (b3, .inl (cI, 31, .inl (D 7))), (b4, .inl (cI, 31, .inl (D 8))), (b5, .inl (cI, 31, .inl (D 9))), (b6, .inl (cI, 31, .inl (D 10)))] sz)) 0 0 (va_A [(mo, .inr (3, [.int th, .ref rr, .ref si, .ref nb, .ref ak, .ref ha])), (rr, .inl (cR, 7, .inr (.inr (.inr (.inr (RW [b0, b1, b2, b3, b4, b5, b6])))))), (si, .inl (cI, 7, .inl (D 0))), (nb, .inl (cI, 6, .inl (D 1))), (ak, .inl (cI, 30, .inl (D 2))), (ha, .inl (cI, 30, .inl (D 3))), (b0, .inl (cI, 31, .inl (D 4))), (b1, .inl (cI, 31, .inl (D 5))), (b2, .inl (cI, 31, .inl (D 6))), (b3, .inl (cI, 31, .inl (D 7))), (b4, .inl (cI, 31, .inl (D 8))), (b5, .inl (cI, 31, .inl (D 9))), (b6, .inl (cI, 31, .inl (D 10)))] sz) := by
  refine Met.ofW (cc := cX3_last) (maxL := 2) (ret := (some .int)) (by decide) rfl ?_
  intro p e s m args below meth c s₁ B hml hv
  obtain ⟨rfl, hsz, hP, hK, hD0⟩ := hv
  have hx := B.exec
  have hb := B.bytes
  have hr := B.returns
  have hts := atoms_spec (ws := wsX3_last) B.pre
  have hown : s.vm.findClass RX3 = some m.cls := findClass_of_methodNamed B.named
  have hlocks := B.notSynchronized
  subst hsz
  have hD := hD0.self (sz := s.heap.size)
  clear hD0
  generalize hAe : va_A [(mo, .inr (3, [.int th, .ref rr, .ref si, .ref nb, .ref ak, .ref ha])), (rr, .inl (cR, 7, .inr (.inr (.inr (.inr (RW [b0, b1, b2, b3, b4, b5, b6])))))), (si, .inl (cI, 7, .inl (D 0))), (nb, .inl (cI, 6, .inl (D 1))), (ak, .inl (cI, 30, .inl (D 2))), (ha, .inl (cI, 30, .inl (D 3))), (b0, .inl (cI, 31, .inl (D 4))), (b1, .inl (cI, 31, .inl (D 5))), (b2, .inl (cI, 31, .inl (D 6))), (b3, .inl (cI, 31, .inl (D 7))), (b4, .inl (cI, 31, .inl (D 8))), (b5, .inl (cI, 31, .inl (D 9))), (b6, .inl (cI, 31, .inl (D 10)))] s.heap.size = A at hD ⊢
  have hA : ∀ q : Nat, s.heap.size ≤ q → A q := fun q h => by rw [← hAe]; exact Or.inr h
  have hS : va_S A s.heap s.heap [] := va_S.rf
  have hP : va_P G vwCl [(mo, .inr (3, [.int th, .ref rr, .ref si, .ref nb, .ref ak, .ref ha])), (rr, .inl (cR, 7, .inr (.inr (.inr (.inr (RW [b0, b1, b2, b3, b4, b5, b6])))))), (si, .inl (cI, 7, .inl (D 0))), (nb, .inl (cI, 6, .inl (D 1))), (ak, .inl (cI, 30, .inl (D 2))), (ha, .inl (cI, 30, .inl (D 3))), (b0, .inl (cI, 31, .inl (D 4))), (b1, .inl (cI, 31, .inl (D 5))), (b2, .inl (cI, 31, .inl (D 6))), (b3, .inl (cI, 31, .inl (D 7))), (b4, .inl (cI, 31, .inl (D 8))), (b5, .inl (cI, 31, .inl (D 9))), (b6, .inl (cI, 31, .inl (D 10)))] s.heap := hP
  have hl := lv_entry ([.ref mo, .int (nI 5)]) (n := 2) (Nat.le_of_ble_eq_true rfl)
  rw [lg_entry_eq]
  generalize (lg_sl ([.ref mo, .int (nI 5)]) ++ List.replicate (2 - (lg_sl ([.ref mo, .int (nI 5)])).length) Slot.unset).toArray = ls at hl ⊢
  have hl : lv_has ls 2 [(0, .ref mo), (1, .int (nI 5))] := hl
  refine lv_aload_n hx hb dX3_last_0 rfl (lv_at hl 0 rfl) ?_
  refine va_get (D := G) (ci := 3) (v := .ref si) (C := RX3) (T := TX3) (N := 6) hx hb hts iX3_last_X3 hown hK hP 0 rfl rfl 2 (by decide) (hts (.fieldLink RX3 14 "GhostPantryModel" "sizes" "[I") (by decide +kernel)) (fun _ h9 => h9) rfl dX3_last_1 ?_
  refine lv_iload_n hx hb dX3_last_4 rfl (lv_at hl 1 rfl) ?_
  refine lv_dup2_11 hx hb dX3_last_5 rfl rfl ?_
  refine g_iald hx hb hK hP 2 0 rfl rfl (i := 5) (by decide) (by decide) dX3_last_6 (v := (nI P.length)) (hM.2.2.2.2.2.2.2.2.2.2.1) ?_
  refine lv_iconst (v := (nI 1)) hx hb dX3_last_7 (by decide +kernel) ?_
  refine g_isub hx hb dX3_last_8 (by omega) ?_
  refine g_iast hx hb hK hP hD hS 2 0 rfl rfl (i := 5) (x := (nI (P.length - 1))) (by decide) (by decide) dX3_last_9 (fun H_1 locs hP1 hD1 hS1 => ?_)
  clear hP hD hS
  have hP : va_P G vwCl [(mo, .inr (3, [.int th, .ref rr, .ref si, .ref nb, .ref ak, .ref ha])), (rr, .inl (cR, 7, .inr (.inr (.inr (.inr (RW [b0, b1, b2, b3, b4, b5, b6])))))), (si, .inl (cI, 7, .inl (upd (D 0) 5 (nI (P.length - 1))))), (nb, .inl (cI, 6, .inl (D 1))), (ak, .inl (cI, 30, .inl (D 2))), (ha, .inl (cI, 30, .inl (D 3))), (b0, .inl (cI, 31, .inl (D 4))), (b1, .inl (cI, 31, .inl (D 5))), (b2, .inl (cI, 31, .inl (D 6))), (b3, .inl (cI, 31, .inl (D 7))), (b4, .inl (cI, 31, .inl (D 8))), (b5, .inl (cI, 31, .inl (D 9))), (b6, .inl (cI, 31, .inl (D 10)))] H_1 := hP1
  have hD : va_D A [(mo, .inr (3, [.int th, .ref rr, .ref si, .ref nb, .ref ak, .ref ha])), (rr, .inl (cR, 7, .inr (.inr (.inr (.inr (RW [b0, b1, b2, b3, b4, b5, b6])))))), (si, .inl (cI, 7, .inl (upd (D 0) 5 (nI (P.length - 1))))), (nb, .inl (cI, 6, .inl (D 1))), (ak, .inl (cI, 30, .inl (D 2))), (ha, .inl (cI, 30, .inl (D 3))), (b0, .inl (cI, 31, .inl (D 4))), (b1, .inl (cI, 31, .inl (D 5))), (b2, .inl (cI, 31, .inl (D 6))), (b3, .inl (cI, 31, .inl (D 7))), (b4, .inl (cI, 31, .inl (D 8))), (b5, .inl (cI, 31, .inl (D 9))), (b6, .inl (cI, 31, .inl (D 10)))] := hD1
  have hS := hS1
  clear hP1 hD1 hS1
  refine lv_aload_n hx hb dX3_last_10 rfl (lv_at hl 0 rfl) ?_
  refine va_get (D := G) (ci := 3) (v := .ref rr) (C := RX3) (T := TX3) (N := 6) hx hb hts iX3_last_X3 hown hK hP 0 rfl rfl 1 (by decide) (hts (.fieldLink RX3 11 "GhostPantryModel" "rows" "[[I") (by decide +kernel)) (fun _ h9 => h9) rfl dX3_last_11 ?_
  refine lv_iload_n hx hb dX3_last_14 rfl (lv_at hl 1 rfl) ?_
  refine g_aald hx hb hK hP 1 1 rfl rfl (i := 5) (by decide) (by decide) dX3_last_15 (b := b5) (rfl) ?_
  refine lv_aload_n hx hb dX3_last_16 rfl (lv_at hl 0 rfl) ?_
  refine va_get (D := G) (ci := 3) (v := .ref si) (C := RX3) (T := TX3) (N := 6) hx hb hts iX3_last_X3 hown hK hP 0 rfl rfl 2 (by decide) (hts (.fieldLink RX3 14 "GhostPantryModel" "sizes" "[I") (by decide +kernel)) (fun _ h9 => h9) rfl dX3_last_17 ?_
  refine lv_iload_n hx hb dX3_last_20 rfl (lv_at hl 1 rfl) ?_
  refine g_iald hx hb hK hP 2 0 rfl rfl (i := 5) (by decide) (by decide) dX3_last_21 (v := (nI (P.length - 1))) (rfl) ?_
  refine g_iald hx hb hK hP 11 0 rfl rfl (i := (P.length - 1)) (by omega) (by decide) dX3_last_22 (v := (lst P)) (Rw_lst hM.2.2.2.2.1 h0) ?_
  have hP9 := hP.sub (ws' := [(mo, .inr (3, [.int th, .ref rr, .ref si, .ref nb, .ref ak, .ref ha])), (rr, .inl (cR, 7, .inr (.inr (.inr (.inr (RW [b0, b1, b2, b3, b4, b5, b6])))))), (si, .inl (cI, 7, .inl (upd (D 0) 5 (nI (P.length - 1))))), (nb, .inl (cI, 6, .inl (D 1))), (ak, .inl (cI, 30, .inl (D 2))), (ha, .inl (cI, 30, .inl (D 3))), (b0, .inl (cI, 31, .inl (D 4))), (b1, .inl (cI, 31, .inl (D 5))), (b2, .inl (cI, 31, .inl (D 6))), (b3, .inl (cI, 31, .inl (D 7))), (b4, .inl (cI, 31, .inl (D 8))), (b5, .inl (cI, 31, .inl (D 9))), (b6, .inl (cI, 31, .inl (D 10)))]) [0, 1, 2, 3, 4, 5, 6, 7, 8, 9, 10, 11, 12] rfl
  have hD9 := hD.sub (ws' := [(mo, .inr (3, [.int th, .ref rr, .ref si, .ref nb, .ref ak, .ref ha])), (rr, .inl (cR, 7, .inr (.inr (.inr (.inr (RW [b0, b1, b2, b3, b4, b5, b6])))))), (si, .inl (cI, 7, .inl (upd (D 0) 5 (nI (P.length - 1))))), (nb, .inl (cI, 6, .inl (D 1))), (ak, .inl (cI, 30, .inl (D 2))), (ha, .inl (cI, 30, .inl (D 3))), (b0, .inl (cI, 31, .inl (D 4))), (b1, .inl (cI, 31, .inl (D 5))), (b2, .inl (cI, 31, .inl (D 6))), (b3, .inl (cI, 31, .inl (D 7))), (b4, .inl (cI, 31, .inl (D 8))), (b5, .inl (cI, 31, .inl (D 9))), (b6, .inl (cI, 31, .inl (D 10)))]) [0, 1, 2, 3, 4, 5, 6, 7, 8, 9, 10, 11, 12] (by decide) rfl
  exact W.iret (v := (lst P)) hx hb hr (fun t ht hW => ⟨⟨(lst P), (), rfl, rfl, (dat (upd (D 0) 5 (nI (P.length - 1))) (D 1) (D 2) (D 3) (D 4) (D 5) (D 6) (D 7) (D 8) (D 9) (D 10)), ⟨hM.1, hM.2.1, hM.2.2.1, hM.2.2.2.1, (Rw_drop hM.2.2.2.2.1), hM.2.2.2.2.2.1, hM.2.2.2.2.2.2.1, hM.2.2.2.2.2.2.2.1, hM.2.2.2.2.2.2.2.2.1, hM.2.2.2.2.2.2.2.2.2.1, (congrArg nI List.length_dropLast.symm), hM.2.2.2.2.2.2.2.2.2.2.2.1, hM.2.2.2.2.2.2.2.2.2.2.2.2.1, hM.2.2.2.2.2.2.2.2.2.2.2.2.2.1, hM.2.2.2.2.2.2.2.2.2.2.2.2.2.2.1, hM.2.2.2.2.2.2.2.2.2.2.2.2.2.2.2.1, hM.2.2.2.2.2.2.2.2.2.2.2.2.2.2.2.2.1, hM.2.2.2.2.2.2.2.2.2.2.2.2.2.2.2.2.2.1, hM.2.2.2.2.2.2.2.2.2.2.2.2.2.2.2.2.2.2.1, hM.2.2.2.2.2.2.2.2.2.2.2.2.2.2.2.2.2.2.2⟩, g_at hP9 hK hD9 ht hW⟩, hS.F ht⟩) hS.2.2 dX3_last_23

set_option maxHeartbeats 4000000 in
set_option maxRecDepth 100000 in
theorem c_X3_toFront_6 (l : Launch) (G : va_G) (cI cR : ClassId) (mo rr si nb ak ha b0 b1 b2 b3 b4 b5 b6 : Nat) (th : Int32) (D : Nat → Nat → Int32) (L1 L2 L3 L4 P M : List Int32) (rc bo : Nat) (nA nH nP nM : Int32) (KA TA : Nat → Int32) (hM : MOK D rc M ((L1, L2, L3, L4), P, bo, nA, nH, nP, nM, KA, TA)) (jar : Int32) (h30 : M.length ≤ 30) (sz : Nat) : Met l yX3_toFront wsX3_toFront ({ frames := 1, cells := 0, slots := 0, locals := 18 }) (va_Pc [.ref mo, .int (nI 6), .int jar] (gpre G [(cI, .int), (cR, .array .int)] [(mo, .inr (3, [.int th, .ref rr, .ref si, .ref nb, .ref ak, .ref ha])), (rr, .inl (cR, 7, .inr (.inr (.inr (.inr (RW [b0, b1, b2, b3, b4, b5, b6])))))), (si, .inl (cI, 7, .inl (D 0))), (nb, .inl (cI, 6, .inl (D 1))), (ak, .inl (cI, 30, .inl (D 2))), (ha, .inl (cI, 30, .inl (D 3))), (b0, .inl (cI, 31, .inl (D 4))), (b1, .inl (cI, 31, .inl (D 5))), (b2, .inl (cI, 31, .inl (D 6))), (b3, .inl (cI, 31, .inl (D 7))), (b4, .inl (cI, 31, .inl (D 8))), (b5, .inl (cI, 31, .inl (D 9))), (b6, .inl (cI, 31, .inl (D 10)))] sz)) (va_Qv (fun (_ : Unit) => True) (fun (_ : Unit) t => ∃ D' : Nat → Nat → Int32, MOK D' rc (jar :: M) ((L1, L2, L3, L4), P, bo, nA, nH, nP, nM, KA, TA) ∧ gat G [(cI, .int), (cR, .array .int)] (va_A [(mo, .inr (3, [.int th, .ref rr, .ref si, .ref nb, .ref ak, .ref ha])), (rr, .inl (cR, 7, .inr (.inr (.inr (.inr (RW [b0, b1, b2, b3, b4, b5, b6])))))), (si, .inl (cI, 7, .inl (D 0))), (nb, .inl (cI, 6, .inl (D 1))), (ak, .inl (cI, 30, .inl (D 2))), (ha, .inl (cI, 30, .inl (D 3))), (b0, .inl (cI, 31, .inl (D 4))), (b1, .inl (cI, 31, .inl (D 5))), (b2, .inl (cI, 31, .inl (D 6))), (b3, .inl (cI, 31, .inl (D 7))), (b4, .inl (cI, 31, .inl (D 8))), (b5, .inl (cI, 31, .inl (D 9))), (b6, .inl (cI, 31, .inl (D 10)))] sz) [(mo, .inr (3, [.int th, .ref rr, .ref si, .ref nb, .ref ak, .ref ha])), (rr, .inl (cR, 7, .inr (.inr (.inr (.inr (RW [b0, b1, b2, b3, b4, b5, b6])))))), (si, .inl (cI, 7, .inl (D' 0))), (nb, .inl (cI, 6, .inl (D' 1))), (ak, .inl (cI, 30, .inl (D' 2))), (ha, .inl (cI, 30, .inl (D' 3))), (b0, .inl (cI, 31, .inl (D' 4))), (b1, .inl (cI, 31, .inl (D' 5))), (b2, .inl (cI, 31, .inl (D' 6))), (b3, .inl (cI, 31, .inl (D' 7))), (b4, .inl (cI, 31, .inl (D' 8))), (b5, .inl (cI, 31, .inl (D' 9))), (b6, .inl (cI, 31, .inl (D' 10)))] t) (va_A [(mo, .inr (3, [.int th, .ref rr, .ref si, .ref nb, .ref ak, .ref ha])), (rr, .inl (cR, 7, .inr (.inr (.inr (.inr (RW [b0, b1, b2, b3, b4, b5, b6])))))), (si, .inl (cI, 7, .inl (D 0))), (nb, .inl (cI, 6, .inl (D 1))), (ak, .inl (cI, 30, .inl (D 2))), (ha, .inl (cI, 30, .inl (D 3))), (b0, .inl (cI, 31, .inl (D 4))), (b1, .inl (cI, 31, .inl (D 5))), (b2, .inl (cI, 31, .inl (D 6))), (b3, .inl (cI, 31, .inl (D 7))), (b4, .inl (cI, 31, .inl (D 8))), (b5, .inl (cI, 31, .inl (D 9))), (b6, .inl (cI, 31, .inl (D 10)))] sz)) 0 0 (va_A [(mo, .inr (3, [.int th, .ref rr, .ref si, .ref nb, .ref ak, .ref ha])), (rr, .inl (cR, 7, .inr (.inr (.inr (.inr (RW [b0, b1, b2, b3, b4, b5, b6])))))), (si, .inl (cI, 7, .inl (D 0))), (nb, .inl (cI, 6, .inl (D 1))), (ak, .inl (cI, 30, .inl (D 2))), (ha, .inl (cI, 30, .inl (D 3))), (b0, .inl (cI, 31, .inl (D 4))), (b1, .inl (cI, 31, .inl (D 5))), (b2, .inl (cI, 31, .inl (D 6))), (b3, .inl (cI, 31, .inl (D 7))), (b4, .inl (cI, 31, .inl (D 8))), (b5, .inl (cI, 31, .inl (D 9))), (b6, .inl (cI, 31, .inl (D 10)))] sz) := by
  refine Met.ofW (cc := cX3_toFront) (maxL := 3) (ret := none) (by decide) rfl ?_
  intro p e s m args below meth c s₁ B hml hv
  obtain ⟨rfl, hsz, hP, hK, hD0⟩ := hv
  have hx := B.exec
  have hb := B.bytes
  have hr := B.returns
  have hts := atoms_spec (ws := wsX3_toFront) B.pre
  have hown : s.vm.findClass RX3 = some m.cls := findClass_of_methodNamed B.named
  have hlocks := B.notSynchronized
  subst hsz
  have hD := hD0.self (sz := s.heap.size)
  clear hD0
  generalize hAe : va_A [(mo, .inr (3, [.int th, .ref rr, .ref si, .ref nb, .ref ak, .ref ha])), (rr, .inl (cR, 7, .inr (.inr (.inr (.inr (RW [b0, b1, b2, b3, b4, b5, b6])))))), (si, .inl (cI, 7, .inl (D 0))), (nb, .inl (cI, 6, .inl (D 1))), (ak, .inl (cI, 30, .inl (D 2))), (ha, .inl (cI, 30, .inl (D 3))), (b0, .inl (cI, 31, .inl (D 4))), (b1, .inl (cI, 31, .inl (D 5))), (b2, .inl (cI, 31, .inl (D 6))), (b3, .inl (cI, 31, .inl (D 7))), (b4, .inl (cI, 31, .inl (D 8))), (b5, .inl (cI, 31, .inl (D 9))), (b6, .inl (cI, 31, .inl (D 10)))] s.heap.size = A at hD ⊢
  have hA : ∀ q : Nat, s.heap.size ≤ q → A q := fun q h => by rw [← hAe]; exact Or.inr h
  have hS : va_S A s.heap s.heap [] := va_S.rf
  have hP : va_P G vwCl [(mo, .inr (3, [.int th, .ref rr, .ref si, .ref nb, .ref ak, .ref ha])), (rr, .inl (cR, 7, .inr (.inr (.inr (.inr (RW [b0, b1, b2, b3, b4, b5, b6])))))), (si, .inl (cI, 7, .inl (D 0))), (nb, .inl (cI, 6, .inl (D 1))), (ak, .inl (cI, 30, .inl (D 2))), (ha, .inl (cI, 30, .inl (D 3))), (b0, .inl (cI, 31, .inl (D 4))), (b1, .inl (cI, 31, .inl (D 5))), (b2, .inl (cI, 31, .inl (D 6))), (b3, .inl (cI, 31, .inl (D 7))), (b4, .inl (cI, 31, .inl (D 8))), (b5, .inl (cI, 31, .inl (D 9))), (b6, .inl (cI, 31, .inl (D 10)))] s.heap := hP
  have hl := lv_entry ([.ref mo, .int (nI 6), .int jar]) (n := 3) (Nat.le_of_ble_eq_true rfl)
  rw [lg_entry_eq]
  generalize (lg_sl ([.ref mo, .int (nI 6), .int jar]) ++ List.replicate (3 - (lg_sl ([.ref mo, .int (nI 6), .int jar])).length) Slot.unset).toArray = ls at hl ⊢
  have hl : lv_has ls 3 [(0, .ref mo), (1, .int (nI 6)), (2, .int jar)] := hl
  refine lv_aload_n hx hb dX3_toFront_0 rfl (lv_at hl 0 rfl) ?_
  refine va_get (D := G) (ci := 3) (v := .ref rr) (C := RX3) (T := TX3) (N := 6) hx hb hts iX3_toFront_X3 hown hK hP 0 rfl rfl 1 (by decide) (hts (.fieldLink RX3 11 "GhostPantryModel" "rows" "[[I") (by decide +kernel)) (fun _ h9 => h9) rfl dX3_toFront_1 ?_
  refine lv_iload_n hx hb dX3_toFront_4 rfl (lv_at hl 1 rfl) ?_
  refine g_aald hx hb hK hP 1 1 rfl rfl (i := 6) (by decide) (by decide) dX3_toFront_5 (b := b6) (rfl) ?_
  refine lv_iconst (v := (nI 0)) hx hb dX3_toFront_6 (by decide +kernel) ?_
  refine lv_aload_n hx hb dX3_toFront_7 rfl (lv_at hl 0 rfl) ?_
  refine va_get (D := G) (ci := 3) (v := .ref rr) (C := RX3) (T := TX3) (N := 6) hx hb hts iX3_toFront_X3 hown hK hP 0 rfl rfl 1 (by decide) (hts (.fieldLink RX3 11 "GhostPantryModel" "rows" "[[I") (by decide +kernel)) (fun _ h9 => h9) rfl dX3_toFront_8 ?_
  refine lv_iload_n hx hb dX3_toFront_11 rfl (lv_at hl 1 rfl) ?_
  refine g_aald hx hb hK hP 1 1 rfl rfl (i := 6) (by decide) (by decide) dX3_toFront_12 (b := b6) (rfl) ?_
  refine lv_iconst (v := (nI 1)) hx hb dX3_toFront_13 (by decide +kernel) ?_
  refine lv_aload_n hx hb dX3_toFront_14 rfl (lv_at hl 0 rfl) ?_
  refine va_get (D := G) (ci := 3) (v := .ref si) (C := RX3) (T := TX3) (N := 6) hx hb hts iX3_toFront_X3 hown hK hP 0 rfl rfl 2 (by decide) (hts (.fieldLink RX3 14 "GhostPantryModel" "sizes" "[I") (by decide +kernel)) (fun _ h9 => h9) rfl dX3_toFront_15 ?_
  refine lv_iload_n hx hb dX3_toFront_18 rfl (lv_at hl 1 rfl) ?_
  refine g_iald hx hb hK hP 2 0 rfl rfl (i := 6) (by decide) (by decide) dX3_toFront_19 (v := (nI M.length)) (hM.2.2.2.2.2.2.2.2.2.2.2.1) ?_
  refine g_copyi hx hb (hml.trans hl.1.symm) hown (hts (.methodLink RX3 39 arraycopyName) (by decide +kernel)) (hts (.native arraycopyName) (by decide +kernel)) (hts (.static arraycopyName) (by decide +kernel)) (hts (.initialized "java/lang/System") (by decide +kernel)) hK hP hD hS 12 12 0 rfl rfl rfl (sp := 0) (dp := 1) (n := M.length) (by decide) (by decide) (by omega) (by omega) (by omega) (Nat.le_of_ble_eq_true rfl) (Nat.le_of_ble_eq_true rfl) dX3_toFront_20 (fun H_1 locs hP1 hD1 hS1 => ?_)
  clear hP hD hS
  have hP : va_P G vwCl [(mo, .inr (3, [.int th, .ref rr, .ref si, .ref nb, .ref ak, .ref ha])), (rr, .inl (cR, 7, .inr (.inr (.inr (.inr (RW [b0, b1, b2, b3, b4, b5, b6])))))), (si, .inl (cI, 7, .inl (D 0))), (nb, .inl (cI, 6, .inl (D 1))), (ak, .inl (cI, 30, .inl (D 2))), (ha, .inl (cI, 30, .inl (D 3))), (b0, .inl (cI, 31, .inl (D 4))), (b1, .inl (cI, 31, .inl (D 5))), (b2, .inl (cI, 31, .inl (D 6))), (b3, .inl (cI, 31, .inl (D 7))), (b4, .inl (cI, 31, .inl (D 8))), (b5, .inl (cI, 31, .inl (D 9))), (b6, .inl (cI, 31, .inl (va_cpy (D 10) (D 10) 0 1 M.length)))] H_1 := hP1
  have hD : va_D A [(mo, .inr (3, [.int th, .ref rr, .ref si, .ref nb, .ref ak, .ref ha])), (rr, .inl (cR, 7, .inr (.inr (.inr (.inr (RW [b0, b1, b2, b3, b4, b5, b6])))))), (si, .inl (cI, 7, .inl (D 0))), (nb, .inl (cI, 6, .inl (D 1))), (ak, .inl (cI, 30, .inl (D 2))), (ha, .inl (cI, 30, .inl (D 3))), (b0, .inl (cI, 31, .inl (D 4))), (b1, .inl (cI, 31, .inl (D 5))), (b2, .inl (cI, 31, .inl (D 6))), (b3, .inl (cI, 31, .inl (D 7))), (b4, .inl (cI, 31, .inl (D 8))), (b5, .inl (cI, 31, .inl (D 9))), (b6, .inl (cI, 31, .inl (va_cpy (D 10) (D 10) 0 1 M.length)))] := hD1
  have hS := hS1
  clear hP1 hD1 hS1
  refine lv_aload_n hx hb dX3_toFront_23 rfl (lv_at hl 0 rfl) ?_
  refine va_get (D := G) (ci := 3) (v := .ref rr) (C := RX3) (T := TX3) (N := 6) hx hb hts iX3_toFront_X3 hown hK hP 0 rfl rfl 1 (by decide) (hts (.fieldLink RX3 11 "GhostPantryModel" "rows" "[[I") (by decide +kernel)) (fun _ h9 => h9) rfl dX3_toFront_24 ?_
  refine lv_iload_n hx hb dX3_toFront_27 rfl (lv_at hl 1 rfl) ?_
  refine g_aald hx hb hK hP 1 1 rfl rfl (i := 6) (by decide) (by decide) dX3_toFront_28 (b := b6) (rfl) ?_
  refine lv_iconst (v := (nI 0)) hx hb dX3_toFront_29 (by decide +kernel) ?_
  refine lv_iload_n hx hb dX3_toFront_30 rfl (lv_at hl 2 rfl) ?_
  refine g_iast hx hb hK hP hD hS 12 0 rfl rfl (i := 0) (x := jar) (by decide) (by decide) dX3_toFront_31 (fun H_2 locs hP1 hD1 hS1 => ?_)
  clear hP hD hS
  have hP : va_P G vwCl [(mo, .inr (3, [.int th, .ref rr, .ref si, .ref nb, .ref ak, .ref ha])), (rr, .inl (cR, 7, .inr (.inr (.inr (.inr (RW [b0, b1, b2, b3, b4, b5, b6])))))), (si, .inl (cI, 7, .inl (D 0))), (nb, .inl (cI, 6, .inl (D 1))), (ak, .inl (cI, 30, .inl (D 2))), (ha, .inl (cI, 30, .inl (D 3))), (b0, .inl (cI, 31, .inl (D 4))), (b1, .inl (cI, 31, .inl (D 5))), (b2, .inl (cI, 31, .inl (D 6))), (b3, .inl (cI, 31, .inl (D 7))), (b4, .inl (cI, 31, .inl (D 8))), (b5, .inl (cI, 31, .inl (D 9))), (b6, .inl (cI, 31, .inl (upd (va_cpy (D 10) (D 10) 0 1 M.length) 0 jar)))] H_2 := hP1
  have hD : va_D A [(mo, .inr (3, [.int th, .ref rr, .ref si, .ref nb, .ref ak, .ref ha])), (rr, .inl (cR, 7, .inr (.inr (.inr (.inr (RW [b0, b1, b2, b3, b4, b5, b6])))))), (si, .inl (cI, 7, .inl (D 0))), (nb, .inl (cI, 6, .inl (D 1))), (ak, .inl (cI, 30, .inl (D 2))), (ha, .inl (cI, 30, .inl (D 3))), (b0, .inl (cI, 31, .inl (D 4))), (b1, .inl (cI, 31, .inl (D 5))), (b2, .inl (cI, 31, .inl (D 6))), (b3, .inl (cI, 31, .inl (D 7))), (b4, .inl (cI, 31, .inl (D 8))), (b5, .inl (cI, 31, .inl (D 9))), (b6, .inl (cI, 31, .inl (upd (va_cpy (D 10) (D 10) 0 1 M.length) 0 jar)))] := hD1
  have hS := hS1
  clear hP1 hD1 hS1
  refine lv_aload_n hx hb dX3_toFront_32 rfl (lv_at hl 0 rfl) ?_
  refine va_get (D := G) (ci := 3) (v := .ref si) (C := RX3) (T := TX3) (N := 6) hx hb hts iX3_toFront_X3 hown hK hP 0 rfl rfl 2 (by decide) (hts (.fieldLink RX3 14 "GhostPantryModel" "sizes" "[I") (by decide +kernel)) (fun _ h9 => h9) rfl dX3_toFront_33 ?_
  refine lv_iload_n hx hb dX3_toFront_36 rfl (lv_at hl 1 rfl) ?_
  refine lv_dup2_11 hx hb dX3_toFront_37 rfl rfl ?_
  refine g_iald hx hb hK hP 2 0 rfl rfl (i := 6) (by decide) (by decide) dX3_toFront_38 (v := (nI M.length)) (hM.2.2.2.2.2.2.2.2.2.2.2.1) ?_
  refine lv_iconst (v := (nI 1)) hx hb dX3_toFront_39 (by decide +kernel) ?_
  refine g_iadd hx hb dX3_toFront_40 ?_
  refine g_iast hx hb hK hP hD hS 2 0 rfl rfl (i := 6) (x := (nI (M.length + 1))) (by decide) (by decide) dX3_toFront_41 (fun H_3 locs hP1 hD1 hS1 => ?_)
  clear hP hD hS
  have hP : va_P G vwCl [(mo, .inr (3, [.int th, .ref rr, .ref si, .ref nb, .ref ak, .ref ha])), (rr, .inl (cR, 7, .inr (.inr (.inr (.inr (RW [b0, b1, b2, b3, b4, b5, b6])))))), (si, .inl (cI, 7, .inl (upd (D 0) 6 (nI (M.length + 1))))), (nb, .inl (cI, 6, .inl (D 1))), (ak, .inl (cI, 30, .inl (D 2))), (ha, .inl (cI, 30, .inl (D 3))), (b0, .inl (cI, 31, .inl (D 4))), (b1, .inl (cI, 31, .inl (D 5))), (b2, .inl (cI, 31, .inl (D 6))), (b3, .inl (cI, 31, .inl (D 7))), (b4, .inl (cI, 31, .inl (D 8))), (b5, .inl (cI, 31, .inl (D 9))), (b6, .inl (cI, 31, .inl (upd (va_cpy (D 10) (D 10) 0 1 M.length) 0 jar)))] H_3 := hP1
  have hD : va_D A [(mo, .inr (3, [.int th, .ref rr, .ref si, .ref nb, .ref ak, .ref ha])), (rr, .inl (cR, 7, .inr (.inr (.inr (.inr (RW [b0, b1, b2, b3, b4, b5, b6])))))), (si, .inl (cI, 7, .inl (upd (D 0) 6 (nI (M.length + 1))))), (nb, .inl (cI, 6, .inl (D 1))), (ak, .inl (cI, 30, .inl (D 2))), (ha, .inl (cI, 30, .inl (D 3))), (b0, .inl (cI, 31, .inl (D 4))), (b1, .inl (cI, 31, .inl (D 5))), (b2, .inl (cI, 31, .inl (D 6))), (b3, .inl (cI, 31, .inl (D 7))), (b4, .inl (cI, 31, .inl (D 8))), (b5, .inl (cI, 31, .inl (D 9))), (b6, .inl (cI, 31, .inl (upd (va_cpy (D 10) (D 10) 0 1 M.length) 0 jar)))] := hD1
  have hS := hS1
  clear hP1 hD1 hS1
  have hP9 := hP.sub (ws' := [(mo, .inr (3, [.int th, .ref rr, .ref si, .ref nb, .ref ak, .ref ha])), (rr, .inl (cR, 7, .inr (.inr (.inr (.inr (RW [b0, b1, b2, b3, b4, b5, b6])))))), (si, .inl (cI, 7, .inl (upd (D 0) 6 (nI (M.length + 1))))), (nb, .inl (cI, 6, .inl (D 1))), (ak, .inl (cI, 30, .inl (D 2))), (ha, .inl (cI, 30, .inl (D 3))), (b0, .inl (cI, 31, .inl (D 4))), (b1, .inl (cI, 31, .inl (D 5))), (b2, .inl (cI, 31, .inl (D 6))), (b3, .inl (cI, 31, .inl (D 7))), (b4, .inl (cI, 31, .inl (D 8))), (b5, .inl (cI, 31, .inl (D 9))), (b6, .inl (cI, 31, .inl (upd (va_cpy (D 10) (D 10) 0 1 M.length) 0 jar)))]) [0, 1, 2, 3, 4, 5, 6, 7, 8, 9, 10, 11, 12] rfl
  have hD9 := hD.sub (ws' := [(mo, .inr (3, [.int th, .ref rr, .ref si, .ref nb, .ref ak, .ref ha])), (rr, .inl (cR, 7, .inr (.inr (.inr (.inr (RW [b0, b1, b2, b3, b4, b5, b6])))))), (si, .inl (cI, 7, .inl (upd (D 0) 6 (nI (M.length + 1))))), (nb, .inl (cI, 6, .inl (D 1))), (ak, .inl (cI, 30, .inl (D 2))), (ha, .inl (cI, 30, .inl (D 3))), (b0, .inl (cI, 31, .inl (D 4))), (b1, .inl (cI, 31, .inl (D 5))), (b2, .inl (cI, 31, .inl (D 6))), (b3, .inl (cI, 31, .inl (D 7))), (b4, .inl (cI, 31, .inl (D 8))), (b5, .inl (cI, 31, .inl (D 9))), (b6, .inl (cI, 31, .inl (upd (va_cpy (D 10) (D 10) 0 1 M.length) 0 jar)))]) [0, 1, 2, 3, 4, 5, 6, 7, 8, 9, 10, 11, 12] (by decide) rfl
  exact W.vret hx hb hr (fun t ht hW => ⟨⟨(), rfl, trivial, (dat (upd (D 0) 6 (nI (M.length + 1))) (D 1) (D 2) (D 3) (D 4) (D 5) (D 6) (D 7) (D 8) (D 9) (upd (va_cpy (D 10) (D 10) 0 1 M.length) 0 jar)), ⟨hM.1, hM.2.1, hM.2.2.1, hM.2.2.2.1, hM.2.2.2.2.1, (Rw_cons jar hM.2.2.2.2.2.1), hM.2.2.2.2.2.2.1, hM.2.2.2.2.2.2.2.1, hM.2.2.2.2.2.2.2.2.1, hM.2.2.2.2.2.2.2.2.2.1, hM.2.2.2.2.2.2.2.2.2.2.1, rfl, hM.2.2.2.2.2.2.2.2.2.2.2.2.1, hM.2.2.2.2.2.2.2.2.2.2.2.2.2.1, hM.2.2.2.2.2.2.2.2.2.2.2.2.2.2.1, hM.2.2.2.2.2.2.2.2.2.2.2.2.2.2.2.1, hM.2.2.2.2.2.2.2.2.2.2.2.2.2.2.2.2.1, hM.2.2.2.2.2.2.2.2.2.2.2.2.2.2.2.2.2.1, hM.2.2.2.2.2.2.2.2.2.2.2.2.2.2.2.2.2.2.1, hM.2.2.2.2.2.2.2.2.2.2.2.2.2.2.2.2.2.2.2⟩, g_at hP9 hK hD9 ht hW⟩, hS.F ht⟩) hS.2.2 dX3_toFront_42

set_option maxHeartbeats 4000000 in
set_option maxRecDepth 100000 in
theorem c_X3_takeOut_6 (l : Launch) (G : va_G) (cI cR : ClassId) (mo rr si nb ak ha b0 b1 b2 b3 b4 b5 b6 : Nat) (th : Int32) (D : Nat → Nat → Int32) (L1 L2 L3 L4 P M : List Int32) (rc bo : Nat) (nA nH nP nM : Int32) (KA TA : Nat → Int32) (hM : MOK D rc M ((L1, L2, L3, L4), P, bo, nA, nH, nP, nM, KA, TA)) (pl : Nat) (hp : pl < M.length) (h30 : M.length ≤ 30) (sz : Nat) : Met l yX3_takeOut wsX3_takeOut ({ frames := 1, cells := 0, slots := 0, locals := 18 }) (va_Pc [.ref mo, .int (nI 6), .int (nI pl)] (gpre G [(cI, .int), (cR, .array .int)] [(mo, .inr (3, [.int th, .ref rr, .ref si, .ref nb, .ref ak, .ref ha])), (rr, .inl (cR, 7, .inr (.inr (.inr (.inr (RW [b0, b1, b2, b3, b4, b5, b6])))))), (si, .inl (cI, 7, .inl (D 0))), (nb, .inl (cI, 6, .inl (D 1))), (ak, .inl (cI, 30, .inl (D 2))), (ha, .inl (cI, 30, .inl (D 3))), (b0, .inl (cI, 31, .inl (D 4))), (b1, .inl (cI, 31, .inl (D 5))), (b2, .inl (cI, 31, .inl (D 6))), (b3, .inl (cI, 31, .inl (D 7))), (b4, .inl (cI, 31, .inl (D 8))), (b5, .inl (cI, 31, .inl (D 9))), (b6, .inl (cI, 31, .inl (D 10)))] sz)) (va_Qv (fun (_ : Unit) => True) (fun (_ : Unit) t => ∃ D' : Nat → Nat → Int32, MOK D' rc (M.eraseIdx pl) ((L1, L2, L3, L4), P, bo, nA, nH, nP, nM, KA, TA) ∧ gat G [(cI, .int), (cR, .array .int)] (va_A [(mo, .inr (3, [.int th, .ref rr, .ref si, .ref nb, .ref ak, .ref ha])), (rr, .inl (cR, 7, .inr (.inr (.inr (.inr (RW [b0, b1, b2, b3, b4, b5, b6])))))), (si, .inl (cI, 7, .inl (D 0))), (nb, .inl (cI, 6, .inl (D 1))), (ak, .inl (cI, 30, .inl (D 2))), (ha, .inl (cI, 30, .inl (D 3))), (b0, .inl (cI, 31, .inl (D 4))), (b1, .inl (cI, 31, .inl (D 5))), (b2, .inl (cI, 31, .inl (D 6))), (b3, .inl (cI, 31, .inl (D 7))), (b4, .inl (cI, 31, .inl (D 8))), (b5, .inl (cI, 31, .inl (D 9))), (b6, .inl (cI, 31, .inl (D 10)))] sz) [(mo, .inr (3, [.int th, .ref rr, .ref si, .ref nb, .ref ak, .ref ha])), (rr, .inl (cR, 7, .inr (.inr (.inr (.inr (RW [b0, b1, b2, b3, b4, b5, b6])))))), (si, .inl (cI, 7, .inl (D' 0))), (nb, .inl (cI, 6, .inl (D' 1))), (ak, .inl (cI, 30, .inl (D' 2))), (ha, .inl (cI, 30, .inl (D' 3))), (b0, .inl (cI, 31, .inl (D' 4))), (b1, .inl (cI, 31, .inl (D' 5))), (b2, .inl (cI, 31, .inl (D' 6))), (b3, .inl (cI, 31, .inl (D' 7))), (b4, .inl (cI, 31, .inl (D' 8))), (b5, .inl (cI, 31, .inl (D' 9))), (b6, .inl (cI, 31, .inl (D' 10)))] t) (va_A [(mo, .inr (3, [.int th, .ref rr, .ref si, .ref nb, .ref ak, .ref ha])), (rr, .inl (cR, 7, .inr (.inr (.inr (.inr (RW [b0, b1, b2, b3, b4, b5, b6])))))), (si, .inl (cI, 7, .inl (D 0))), (nb, .inl (cI, 6, .inl (D 1))), (ak, .inl (cI, 30, .inl (D 2))), (ha, .inl (cI, 30, .inl (D 3))), (b0, .inl (cI, 31, .inl (D 4))), (b1, .inl (cI, 31, .inl (D 5))), (b2, .inl (cI, 31, .inl (D 6))), (b3, .inl (cI, 31, .inl (D 7))), (b4, .inl (cI, 31, .inl (D 8))), (b5, .inl (cI, 31, .inl (D 9))), (b6, .inl (cI, 31, .inl (D 10)))] sz)) 0 0 (va_A [(mo, .inr (3, [.int th, .ref rr, .ref si, .ref nb, .ref ak, .ref ha])), (rr, .inl (cR, 7, .inr (.inr (.inr (.inr (RW [b0, b1, b2, b3, b4, b5, b6])))))), (si, .inl (cI, 7, .inl (D 0))), (nb, .inl (cI, 6, .inl (D 1))), (ak, .inl (cI, 30, .inl (D 2))), (ha, .inl (cI, 30, .inl (D 3))), (b0, .inl (cI, 31, .inl (D 4))), (b1, .inl (cI, 31, .inl (D 5))), (b2, .inl (cI, 31, .inl (D 6))), (b3, .inl (cI, 31, .inl (D 7))), (b4, .inl (cI, 31, .inl (D 8))), (b5, .inl (cI, 31, .inl (D 9))), (b6, .inl (cI, 31, .inl (D 10)))] sz) := by
  refine Met.ofW (cc := cX3_takeOut) (maxL := 3) (ret := none) (by decide) rfl ?_
  intro p e s m args below meth c s₁ B hml hv
  obtain ⟨rfl, hsz, hP, hK, hD0⟩ := hv
  have hx := B.exec
  have hb := B.bytes
  have hr := B.returns
  have hts := atoms_spec (ws := wsX3_takeOut) B.pre
  have hown : s.vm.findClass RX3 = some m.cls := findClass_of_methodNamed B.named
  have hlocks := B.notSynchronized
  subst hsz
  have hD := hD0.self (sz := s.heap.size)
  clear hD0
  generalize hAe : va_A [(mo, .inr (3, [.int th, .ref rr, .ref si, .ref nb, .ref ak, .ref ha])), (rr, .inl (cR, 7, .inr (.inr (.inr (.inr (RW [b0, b1, b2, b3, b4, b5, b6])))))), (si, .inl (cI, 7, .inl (D 0))), (nb, .inl (cI, 6, .inl (D 1))), (ak, .inl (cI, 30, .inl (D 2))), (ha, .inl (cI, 30, .inl (D 3))), (b0, .inl (cI, 31, .inl (D 4))), (b1, .inl (cI, 31, .inl (D 5))), (b2, .inl (cI, 31, .inl (D 6))), (b3, .inl (cI, 31, .inl (D 7))), (b4, .inl (cI, 31, .inl (D 8))), (b5, .inl (cI, 31, .inl (D 9))), (b6, .inl (cI, 31, .inl (D 10)))] s.heap.size = A at hD ⊢
  have hA : ∀ q : Nat, s.heap.size ≤ q → A q := fun q h => by rw [← hAe]; exact Or.inr h
  have hS : va_S A s.heap s.heap [] := va_S.rf
  have hP : va_P G vwCl [(mo, .inr (3, [.int th, .ref rr, .ref si, .ref nb, .ref ak, .ref ha])), (rr, .inl (cR, 7, .inr (.inr (.inr (.inr (RW [b0, b1, b2, b3, b4, b5, b6])))))), (si, .inl (cI, 7, .inl (D 0))), (nb, .inl (cI, 6, .inl (D 1))), (ak, .inl (cI, 30, .inl (D 2))), (ha, .inl (cI, 30, .inl (D 3))), (b0, .inl (cI, 31, .inl (D 4))), (b1, .inl (cI, 31, .inl (D 5))), (b2, .inl (cI, 31, .inl (D 6))), (b3, .inl (cI, 31, .inl (D 7))), (b4, .inl (cI, 31, .inl (D 8))), (b5, .inl (cI, 31, .inl (D 9))), (b6, .inl (cI, 31, .inl (D 10)))] s.heap := hP
  have hl := lv_entry ([.ref mo, .int (nI 6), .int (nI pl)]) (n := 3) (Nat.le_of_ble_eq_true rfl)
  rw [lg_entry_eq]
  generalize (lg_sl ([.ref mo, .int (nI 6), .int (nI pl)]) ++ List.replicate (3 - (lg_sl ([.ref mo, .int (nI 6), .int (nI pl)])).length) Slot.unset).toArray = ls at hl ⊢
  have hl : lv_has ls 3 [(0, .ref mo), (1, .int (nI 6)), (2, .int (nI pl))] := hl
  refine lv_aload_n hx hb dX3_takeOut_0 rfl (lv_at hl 0 rfl) ?_
  refine va_get (D := G) (ci := 3) (v := .ref si) (C := RX3) (T := TX3) (N := 6) hx hb hts iX3_takeOut_X3 hown hK hP 0 rfl rfl 2 (by decide) (hts (.fieldLink RX3 14 "GhostPantryModel" "sizes" "[I") (by decide +kernel)) (fun _ h9 => h9) rfl dX3_takeOut_1 ?_
  refine lv_iload_n hx hb dX3_takeOut_4 rfl (lv_at hl 1 rfl) ?_
  refine lv_dup2_11 hx hb dX3_takeOut_5 rfl rfl ?_
  refine g_iald hx hb hK hP 2 0 rfl rfl (i := 6) (by decide) (by decide) dX3_takeOut_6 (v := (nI M.length)) (hM.2.2.2.2.2.2.2.2.2.2.2.1) ?_
  refine lv_iconst (v := (nI 1)) hx hb dX3_takeOut_7 (by decide +kernel) ?_
  refine g_isub hx hb dX3_takeOut_8 (by omega) ?_
  refine g_iast hx hb hK hP hD hS 2 0 rfl rfl (i := 6) (x := (nI (M.length - 1))) (by decide) (by decide) dX3_takeOut_9 (fun H_1 locs hP1 hD1 hS1 => ?_)
  clear hP hD hS
  have hP : va_P G vwCl [(mo, .inr (3, [.int th, .ref rr, .ref si, .ref nb, .ref ak, .ref ha])), (rr, .inl (cR, 7, .inr (.inr (.inr (.inr (RW [b0, b1, b2, b3, b4, b5, b6])))))), (si, .inl (cI, 7, .inl (upd (D 0) 6 (nI (M.length - 1))))), (nb, .inl (cI, 6, .inl (D 1))), (ak, .inl (cI, 30, .inl (D 2))), (ha, .inl (cI, 30, .inl (D 3))), (b0, .inl (cI, 31, .inl (D 4))), (b1, .inl (cI, 31, .inl (D 5))), (b2, .inl (cI, 31, .inl (D 6))), (b3, .inl (cI, 31, .inl (D 7))), (b4, .inl (cI, 31, .inl (D 8))), (b5, .inl (cI, 31, .inl (D 9))), (b6, .inl (cI, 31, .inl (D 10)))] H_1 := hP1
  have hD : va_D A [(mo, .inr (3, [.int th, .ref rr, .ref si, .ref nb, .ref ak, .ref ha])), (rr, .inl (cR, 7, .inr (.inr (.inr (.inr (RW [b0, b1, b2, b3, b4, b5, b6])))))), (si, .inl (cI, 7, .inl (upd (D 0) 6 (nI (M.length - 1))))), (nb, .inl (cI, 6, .inl (D 1))), (ak, .inl (cI, 30, .inl (D 2))), (ha, .inl (cI, 30, .inl (D 3))), (b0, .inl (cI, 31, .inl (D 4))), (b1, .inl (cI, 31, .inl (D 5))), (b2, .inl (cI, 31, .inl (D 6))), (b3, .inl (cI, 31, .inl (D 7))), (b4, .inl (cI, 31, .inl (D 8))), (b5, .inl (cI, 31, .inl (D 9))), (b6, .inl (cI, 31, .inl (D 10)))] := hD1
  have hS := hS1
  clear hP1 hD1 hS1
  refine lv_aload_n hx hb dX3_takeOut_10 rfl (lv_at hl 0 rfl) ?_
  refine va_get (D := G) (ci := 3) (v := .ref rr) (C := RX3) (T := TX3) (N := 6) hx hb hts iX3_takeOut_X3 hown hK hP 0 rfl rfl 1 (by decide) (hts (.fieldLink RX3 11 "GhostPantryModel" "rows" "[[I") (by decide +kernel)) (fun _ h9 => h9) rfl dX3_takeOut_11 ?_
  refine lv_iload_n hx hb dX3_takeOut_14 rfl (lv_at hl 1 rfl) ?_
  refine g_aald hx hb hK hP 1 1 rfl rfl (i := 6) (by decide) (by decide) dX3_takeOut_15 (b := b6) (rfl) ?_
  refine lv_iload_n hx hb dX3_takeOut_16 rfl (lv_at hl 2 rfl) ?_
  refine lv_iconst (v := (nI 1)) hx hb dX3_takeOut_17 (by decide +kernel) ?_
  refine g_iadd hx hb dX3_takeOut_18 ?_
  refine lv_aload_n hx hb dX3_takeOut_19 rfl (lv_at hl 0 rfl) ?_
  refine va_get (D := G) (ci := 3) (v := .ref rr) (C := RX3) (T := TX3) (N := 6) hx hb hts iX3_takeOut_X3 hown hK hP 0 rfl rfl 1 (by decide) (hts (.fieldLink RX3 11 "GhostPantryModel" "rows" "[[I") (by decide +kernel)) (fun _ h9 => h9) rfl dX3_takeOut_20 ?_
  refine lv_iload_n hx hb dX3_takeOut_23 rfl (lv_at hl 1 rfl) ?_
  refine g_aald hx hb hK hP 1 1 rfl rfl (i := 6) (by decide) (by decide) dX3_takeOut_24 (b := b6) (rfl) ?_
  refine lv_iload_n hx hb dX3_takeOut_25 rfl (lv_at hl 2 rfl) ?_
  refine lv_aload_n hx hb dX3_takeOut_26 rfl (lv_at hl 0 rfl) ?_
  refine va_get (D := G) (ci := 3) (v := .ref si) (C := RX3) (T := TX3) (N := 6) hx hb hts iX3_takeOut_X3 hown hK hP 0 rfl rfl 2 (by decide) (hts (.fieldLink RX3 14 "GhostPantryModel" "sizes" "[I") (by decide +kernel)) (fun _ h9 => h9) rfl dX3_takeOut_27 ?_
  refine lv_iload_n hx hb dX3_takeOut_30 rfl (lv_at hl 1 rfl) ?_
  refine g_iald hx hb hK hP 2 0 rfl rfl (i := 6) (by decide) (by decide) dX3_takeOut_31 (v := (nI (M.length - 1))) (rfl) ?_
  refine lv_iload_n hx hb dX3_takeOut_32 rfl (lv_at hl 2 rfl) ?_
  refine g_isub hx hb dX3_takeOut_33 (by omega) ?_
  refine g_copyi hx hb (hml.trans hl.1.symm) hown (hts (.methodLink RX3 39 arraycopyName) (by decide +kernel)) (hts (.native arraycopyName) (by decide +kernel)) (hts (.static arraycopyName) (by decide +kernel)) (hts (.initialized "java/lang/System") (by decide +kernel)) hK hP hD hS 12 12 0 rfl rfl rfl (sp := (pl + 1)) (dp := pl) (n := ((M.length - 1) - pl)) (by omega) (by omega) (by omega) (by omega) (by omega) (Nat.le_of_ble_eq_true rfl) (Nat.le_of_ble_eq_true rfl) dX3_takeOut_34 (fun H_2 locs hP1 hD1 hS1 => ?_)
  clear hP hD hS
  have hP : va_P G vwCl [(mo, .inr (3, [.int th, .ref rr, .ref si, .ref nb, .ref ak, .ref ha])), (rr, .inl (cR, 7, .inr (.inr (.inr (.inr (RW [b0, b1, b2, b3, b4, b5, b6])))))), (si, .inl (cI, 7, .inl (upd (D 0) 6 (nI (M.length - 1))))), (nb, .inl (cI, 6, .inl (D 1))), (ak, .inl (cI, 30, .inl (D 2))), (ha, .inl (cI, 30, .inl (D 3))), (b0, .inl (cI, 31, .inl (D 4))), (b1, .inl (cI, 31, .inl (D 5))), (b2, .inl (cI, 31, .inl (D 6))), (b3, .inl (cI, 31, .inl (D 7))), (b4, .inl (cI, 31, .inl (D 8))), (b5, .inl (cI, 31, .inl (D 9))), (b6, .inl (cI, 31, .inl (va_cpy (D 10) (D 10) (pl + 1) pl ((M.length - 1) - pl))))] H_2 := hP1
  have hD : va_D A [(mo, .inr (3, [.int th, .ref rr, .ref si, .ref nb, .ref ak, .ref ha])), (rr, .inl (cR, 7, .inr (.inr (.inr (.inr (RW [b0, b1, b2, b3, b4, b5, b6])))))), (si, .inl (cI, 7, .inl (upd (D 0) 6 (nI (M.length - 1))))), (nb, .inl (cI, 6, .inl (D 1))), (ak, .inl (cI, 30, .inl (D 2))), (ha, .inl (cI, 30, .inl (D 3))), (b0, .inl (cI, 31, .inl (D 4))), (b1, .inl (cI, 31, .inl (D 5))), (b2, .inl (cI, 31, .inl (D 6))), (b3, .inl (cI, 31, .inl (D 7))), (b4, .inl (cI, 31, .inl (D 8))), (b5, .inl (cI, 31, .inl (D 9))), (b6, .inl (cI, 31, .inl (va_cpy (D 10) (D 10) (pl + 1) pl ((M.length - 1) - pl))))] := hD1
  have hS := hS1
  clear hP1 hD1 hS1
  have hP9 := hP.sub (ws' := [(mo, .inr (3, [.int th, .ref rr, .ref si, .ref nb, .ref ak, .ref ha])), (rr, .inl (cR, 7, .inr (.inr (.inr (.inr (RW [b0, b1, b2, b3, b4, b5, b6])))))), (si, .inl (cI, 7, .inl (upd (D 0) 6 (nI (M.length - 1))))), (nb, .inl (cI, 6, .inl (D 1))), (ak, .inl (cI, 30, .inl (D 2))), (ha, .inl (cI, 30, .inl (D 3))), (b0, .inl (cI, 31, .inl (D 4))), (b1, .inl (cI, 31, .inl (D 5))), (b2, .inl (cI, 31, .inl (D 6))), (b3, .inl (cI, 31, .inl (D 7))), (b4, .inl (cI, 31, .inl (D 8))), (b5, .inl (cI, 31, .inl (D 9))), (b6, .inl (cI, 31, .inl (va_cpy (D 10) (D 10) (pl + 1) pl ((M.length - 1) - pl))))]) [0, 1, 2, 3, 4, 5, 6, 7, 8, 9, 10, 11, 12] rfl
  have hD9 := hD.sub (ws' := [(mo, .inr (3, [.int th, .ref rr, .ref si, .ref nb, .ref ak, .ref ha])), (rr, .inl (cR, 7, .inr (.inr (.inr (.inr (RW [b0, b1, b2, b3, b4, b5, b6])))))), (si, .inl (cI, 7, .inl (upd (D 0) 6 (nI (M.length - 1))))), (nb, .inl (cI, 6, .inl (D 1))), (ak, .inl (cI, 30, .inl (D 2))), (ha, .inl (cI, 30, .inl (D 3))), (b0, .inl (cI, 31, .inl (D 4))), (b1, .inl (cI, 31, .inl (D 5))), (b2, .inl (cI, 31, .inl (D 6))), (b3, .inl (cI, 31, .inl (D 7))), (b4, .inl (cI, 31, .inl (D 8))), (b5, .inl (cI, 31, .inl (D 9))), (b6, .inl (cI, 31, .inl (va_cpy (D 10) (D 10) (pl + 1) pl ((M.length - 1) - pl))))]) [0, 1, 2, 3, 4, 5, 6, 7, 8, 9, 10, 11, 12] (by decide) rfl
  exact W.vret hx hb hr (fun t ht hW => ⟨⟨(), rfl, trivial, (dat (upd (D 0) 6 (nI (M.length - 1))) (D 1) (D 2) (D 3) (D 4) (D 5) (D 6) (D 7) (D 8) (D 9) (va_cpy (D 10) (D 10) (pl + 1) pl ((M.length - 1) - pl))), ⟨hM.1, hM.2.1, hM.2.2.1, hM.2.2.2.1, hM.2.2.2.2.1, (Rw_erase2 hM.2.2.2.2.2.1 hp), hM.2.2.2.2.2.2.1, hM.2.2.2.2.2.2.2.1, hM.2.2.2.2.2.2.2.2.1, hM.2.2.2.2.2.2.2.2.2.1, hM.2.2.2.2.2.2.2.2.2.2.1, (congrArg nI (List.length_eraseIdx_of_lt hp).symm), hM.2.2.2.2.2.2.2.2.2.2.2.2.1, hM.2.2.2.2.2.2.2.2.2.2.2.2.2.1, hM.2.2.2.2.2.2.2.2.2.2.2.2.2.2.1, hM.2.2.2.2.2.2.2.2.2.2.2.2.2.2.2.1, hM.2.2.2.2.2.2.2.2.2.2.2.2.2.2.2.2.1, hM.2.2.2.2.2.2.2.2.2.2.2.2.2.2.2.2.2.1, hM.2.2.2.2.2.2.2.2.2.2.2.2.2.2.2.2.2.2.1, hM.2.2.2.2.2.2.2.2.2.2.2.2.2.2.2.2.2.2.2⟩, g_at hP9 hK hD9 ht hW⟩, hS.F ht⟩) hS.2.2 dX3_takeOut_37
