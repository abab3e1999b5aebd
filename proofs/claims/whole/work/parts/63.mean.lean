set_option maxRecDepth 20000 in
theorem iX2_mean_X2 : ∀ w ∈ wsX20, w ∈ wsX2_mean := by decide +kernel
set_option maxHeartbeats 4000000 in
set_option maxRecDepth 100000 in
theorem c_X2_mean (l : Launch) (G : va_G) (cI : ClassId) (gp sh r5 r6 aa ta ts t5 : Nat) (nA nH nP nM : Int32)  (sz : Nat) : MetD lw_cs l yX2_mean wsX2_mean ({ frames := 0, cells := 0, slots := 0, locals := 0 }) (va_Pc [.ref gp] (gpre G [(cI, .int)] [(gp, .inr (2, [.ref sh, .ref r5, .ref r6, .ref aa, .ref ta, .int nA, .int nH, .int nP, .int nM, .ref ts, .ref t5]))] sz)) (va_Qd (fun (r : UInt64) (_ : Unit) => mnOk r nA nH) (fun (_ : Unit) t => gat G [(cI, .int)] (va_A [(gp, .inr (2, [.ref sh, .ref r5, .ref r6, .ref aa, .ref ta, .int nA, .int nH, .int nP, .int nM, .ref ts, .ref t5]))] sz) [(gp, .inr (2, [.ref sh, .ref r5, .ref r6, .ref aa, .ref ta, .int nA, .int nH, .int nP, .int nM, .ref ts, .ref t5]))] t) (va_A [(gp, .inr (2, [.ref sh, .ref r5, .ref r6, .ref aa, .ref ta, .int nA, .int nH, .int nP, .int nM, .ref ts, .ref t5]))] sz)) 0 0 (va_A [(gp, .inr (2, [.ref sh, .ref r5, .ref r6, .ref aa, .ref ta, .int nA, .int nH, .int nP, .int nM, .ref ts, .ref t5]))] sz) := by
  refine MetD.ofW (cc := cX2_mean) (maxL := 1) (ret := (some .double)) (by decide) rfl ?_
  intro p e s m args below meth c s₁ B hml hv hd0
  obtain ⟨rfl, hsz, hP, hK, hD0⟩ := hv
  have hx := B.exec
  have hb := B.bytes
  have hr := B.returns
  have hts := atoms_spec (ws := wsX2_mean) B.pre
  have hown : s.vm.findClass RX2 = some m.cls := findClass_of_methodNamed B.named
  have hlocks := B.notSynchronized
  have hts := dr_words hts s.drawn
  subst hsz
  have hD := hD0.self (sz := s.heap.size)
  clear hD0
  generalize hAe : va_A [(gp, .inr (2, [.ref sh, .ref r5, .ref r6, .ref aa, .ref ta, .int nA, .int nH, .int nP, .int nM, .ref ts, .ref t5]))] s.heap.size = A at hD ⊢
  have hA : ∀ q : Nat, s.heap.size ≤ q → A q := fun q h => by rw [← hAe]; exact Or.inr h
  have hS : va_S A s.heap s.heap [] := va_S.rf
  have hP : va_P G vwCl [(gp, .inr (2, [.ref sh, .ref r5, .ref r6, .ref aa, .ref ta, .int nA, .int nH, .int nP, .int nM, .ref ts, .ref t5]))] s.heap := hP
  have hl := lv_entry ([.ref gp]) (n := 1) (Nat.le_of_ble_eq_true rfl)
  rw [lg_entry_eq]
  generalize (lg_sl ([.ref gp]) ++ List.replicate (1 - (lg_sl ([.ref gp])).length) Slot.unset).toArray = ls at hl ⊢
  have hl : lv_has ls 1 [(0, .ref gp)] := hl
  refine lv_aload_n hx hb dX2_mean_0 rfl (lv_at hl 0 rfl) ?_
  refine va_get (D := G) (ci := 2) (v := .int nA) (C := RX2) (T := TX2) (N := 11) hx hb hts iX2_mean_X2 hown hK hP 0 rfl rfl 5 (by decide) (hts (.fieldLink RX2 35 "GhostPantry" "askedInAll" "I") (by decide +kernel)) (fun _ h9 => h9) rfl dX2_mean_1 ?_
  refine lv_if_ne (tgt := 9) hx hb dX2_mean_4 (by decide) (fun c_1 => ?_) (fun c_1 => ?_)
  · refine lv_aload_n hx hb dX2_mean_9 rfl (lv_at hl 0 rfl) ?_
    refine va_get (D := G) (ci := 2) (v := .int nH) (C := RX2) (T := TX2) (N := 11) hx hb hts iX2_mean_X2 hown hK hP 0 rfl rfl 6 (by decide) (hts (.fieldLink RX2 39 "GhostPantry" "thereInAll" "I") (by decide +kernel)) (fun _ h9 => h9) rfl dX2_mean_10 ?_
    refine lv_i2d hx hb dX2_mean_13 ?_
    refine lv_aload_n hx hb dX2_mean_14 rfl (lv_at hl 0 rfl) ?_
    refine va_get (D := G) (ci := 2) (v := .int nA) (C := RX2) (T := TX2) (N := 11) hx hb hts iX2_mean_X2 hown hK hP 0 rfl rfl 5 (by decide) (hts (.fieldLink RX2 35 "GhostPantry" "askedInAll" "I") (by decide +kernel)) (fun _ h9 => h9) rfl dX2_mean_15 ?_
    refine lv_i2d hx hb dX2_mean_18 ?_
    refine lv_ddiv_any hd0 lw_bits hx hb dX2_mean_19 (fun r9 d1 hal hd0 => ?_)
    have hP9 := hP.sub (ws' := [(gp, .inr (2, [.ref sh, .ref r5, .ref r6, .ref aa, .ref ta, .int nA, .int nH, .int nP, .int nM, .ref ts, .ref t5]))]) [0] rfl
    have hD9 := hD.sub (ws' := [(gp, .inr (2, [.ref sh, .ref r5, .ref r6, .ref aa, .ref ta, .int nA, .int nH, .int nP, .int nM, .ref ts, .ref t5]))]) [0] (by decide) rfl
    refine W.endD hd0 ?_
    exact W.dret (v := r9) hx hb hr (fun t ht hW => ⟨⟨r9, (), rfl, (mn_1 (by assumption) hal), g_at hP9 hK hD9 ht hW⟩, hS.F ht⟩) hS.2.2 dX2_mean_20
  · refine lv_dconst0 hx hb dX2_mean_7 ?_
    have hP9 := hP.sub (ws' := [(gp, .inr (2, [.ref sh, .ref r5, .ref r6, .ref aa, .ref ta, .int nA, .int nH, .int nP, .int nM, .ref ts, .ref t5]))]) [0] rfl
    have hD9 := hD.sub (ws' := [(gp, .inr (2, [.ref sh, .ref r5, .ref r6, .ref aa, .ref ta, .int nA, .int nH, .int nP, .int nM, .ref ts, .ref t5]))]) [0] (by decide) rfl
    refine W.endD hd0 ?_
    exact W.dret (v := FP.dconst0) hx hb hr (fun t ht hW => ⟨⟨FP.dconst0, (), rfl, (mn_0 (by assumption)), g_at hP9 hK hD9 ht hW⟩, hS.F ht⟩) hS.2.2 dX2_mean_8

set_option maxRecDepth 20000 in
theorem iX3_mean_X3 : ∀ w ∈ wsX30, w ∈ wsX3_mean := by decide +kernel
set_option maxHeartbeats 4000000 in
set_option maxRecDepth 100000 in
theorem c_X3_mean (l : Launch) (G : va_G) (cI cR : ClassId) (mo rr si nb ak ha b0 b1 b2 b3 b4 b5 b6 : Nat) (th : Int32) (D : Nat → Nat → Int32) (L1 L2 L3 L4 P M : List Int32) (rc bo : Nat) (nA nH nP nM : Int32) (KA TA : Nat → Int32) (hM : MOK D rc M ((L1, L2, L3, L4), P, bo, nA, nH, nP, nM, KA, TA))  (sz : Nat) : MetD lw_cs l yX3_mean wsX3_mean ({ frames := 0, cells := 0, slots := 0, locals := 0 }) (va_Pc [.ref mo] (gpre G [(cI, .int), (cR, .array .int)] [(mo, .inr (3, [.int th, .ref rr, .ref si, .ref nb, .ref ak, .ref ha])), (rr, .inl (cR, 7, .inr (.inr (.inr (.inr (RW [b0, b1, b2, b3, b4, b5, b6])))))), (si, .inl (cI, 7, .inl (D 0))), (nb, .inl (cI, 6, .inl (D 1))), (ak, .inl (cI, 30, .inl (D 2))), (ha, .inl (cI, 30, .inl (D 3))), (b0, .inl (cI, 31, .inl (D 4))), (b1, .inl (cI, 31, .inl (D 5))), (b2, .inl (cI, 31, .inl (D 6))), (b3, .inl (cI, 31, .inl (D 7))), (b4, .inl (cI, 31, .inl (D 8))), (b5, .inl (cI, 31, .inl (D 9))), (b6, .inl (cI, 31, .inl (D 10)))] sz)) (va_Qd (fun (r : UInt64) (_ : Unit) => mnOk r nA nH) (fun (_ : Unit) t => gat G [(cI, .int), (cR, .array .int)] (va_A [(mo, .inr (3, [.int th, .ref rr, .ref si, .ref nb, .ref ak, .ref ha])), (rr, .inl (cR, 7, .inr (.inr (.inr (.inr (RW [b0, b1, b2, b3, b4, b5, b6])))))), (si, .inl (cI, 7, .inl (D 0))), (nb, .inl (cI, 6, .inl (D 1))), (ak, .inl (cI, 30, .inl (D 2))), (ha, .inl (cI, 30, .inl (D 3))), (b0, .inl (cI, 31, .inl (D 4))), (b1, .inl (cI, 31, .inl (D 5))), (b2, .inl (cI, 31, .inl (D 6))), (b3, .inl (cI, 31, .inl (D 7))), (b4, .inl (cI, 31, .inl (D 8))), (b5, .inl (cI, 31, .inl (D 9))), (b6, .inl (cI, 31, .inl (D 10)))] sz) [(mo, .inr (3, [.int (nI 0), .ref rr, .ref si, .ref nb, .ref ak, .ref ha])), (rr, .inl (cR, 7, .inr (.inr (.inr (.inr (RW [b0, b1, b2, b3, b4, b5, b6])))))), (si, .inl (cI, 7, .inl (D 0))), (nb, .inl (cI, 6, .inl (D 1))), (ak, .inl (cI, 30, .inl (D 2))), (ha, .inl (cI, 30, .inl (D 3))), (b0, .inl (cI, 31, .inl (D 4))), (b1, .inl (cI, 31, .inl (D 5))), (b2, .inl (cI, 31, .inl (D 6))), (b3, .inl (cI, 31, .inl (D 7))), (b4, .inl (cI, 31, .inl (D 8))), (b5, .inl (cI, 31, .inl (D 9))), (b6, .inl (cI, 31, .inl (D 10)))] t) (va_A [(mo, .inr (3, [.int th, .ref rr, .ref si, .ref nb, .ref ak, .ref ha])), (rr, .inl (cR, 7, .inr (.inr (.inr (.inr (RW [b0, b1, b2, b3, b4, b5, b6])))))), (si, .inl (cI, 7, .inl (D 0))), (nb, .inl (cI, 6, .inl (D 1))), (ak, .inl (cI, 30, .inl (D 2))), (ha, .inl (cI, 30, .inl (D 3))), (b0, .inl (cI, 31, .inl (D 4))), (b1, .inl (cI, 31, .inl (D 5))), (b2, .inl (cI, 31, .inl (D 6))), (b3, .inl (cI, 31, .inl (D 7))), (b4, .inl (cI, 31, .inl (D 8))), (b5, .inl (cI, 31, .inl (D 9))), (b6, .inl (cI, 31, .inl (D 10)))] sz)) 0 0 (va_A [(mo, .inr (3, [.int th, .ref rr, .ref si, .ref nb, .ref ak, .ref ha])), (rr, .inl (cR, 7, .inr (.inr (.inr (.inr (RW [b0, b1, b2, b3, b4, b5, b6])))))), (si, .inl (cI, 7, .inl (D 0))), (nb, .inl (cI, 6, .inl (D 1))), (ak, .inl (cI, 30, .inl (D 2))), (ha, .inl (cI, 30, .inl (D 3))), (b0, .inl (cI, 31, .inl (D 4))), (b1, .inl (cI, 31, .inl (D 5))), (b2, .inl (cI, 31, .inl (D 6))), (b3, .inl (cI, 31, .inl (D 7))), (b4, .inl (cI, 31, .inl (D 8))), (b5, .inl (cI, 31, .inl (D 9))), (b6, .inl (cI, 31, .inl (D 10)))] sz) := by
  refine MetD.ofW (cc := cX3_mean) (maxL := 1) (ret := (some .double)) (by decide) rfl ?_
  intro p e s m args below meth c s₁ B hml hv hd0
  obtain ⟨rfl, hsz, hP, hK, hD0⟩ := hv
  have hx := B.exec
  have hb := B.bytes
  have hr := B.returns
  have hts := atoms_spec (ws := wsX3_mean) B.pre
  have hown : s.vm.findClass RX3 = some m.cls := findClass_of_methodNamed B.named
  have hlocks := B.notSynchronized
  have hts := dr_words hts s.drawn
  subst hsz
  have hD := hD0.self (sz := s.heap.size)
  clear hD0
  generalize hAe : va_A [(mo, .inr (3, [.int th, .ref rr, .ref si, .ref nb, .ref ak, .ref ha])), (rr, .inl (cR, 7, .inr (.inr (.inr (.inr (RW [b0, b1, b2, b3, b4, b5, b6])))))), (si, .inl (cI, 7, .inl (D 0))), (nb, .inl (cI, 6, .inl (D 1))), (ak, .inl (cI, 30, .inl (D 2))), (ha, .inl (cI, 30, .inl (D 3))), (b0, .inl (cI, 31, .inl (D 4))), (b1, .inl (cI, 31, .inl (D 5))), (b2, .inl (cI, 31, .inl (D 6))), (b3, .inl (cI, 31, .inl (D 7))), (b4, .inl (cI, 31, .inl (D 8))), (b5, .inl (cI, 31, .inl (D 9))), (b6, .inl (cI, 31, .inl (D 10)))] s.heap.size = A at hD ⊢
  have hA : ∀ q : Nat, s.heap.size ≤ q → A q := fun q h => by rw [← hAe]; exact Or.inr h
  have hS : va_S A s.heap s.heap [] := va_S.rf
  have hP : va_P G vwCl [(mo, .inr (3, [.int th, .ref rr, .ref si, .ref nb, .ref ak, .ref ha])), (rr, .inl (cR, 7, .inr (.inr (.inr (.inr (RW [b0, b1, b2, b3, b4, b5, b6])))))), (si, .inl (cI, 7, .inl (D 0))), (nb, .inl (cI, 6, .inl (D 1))), (ak, .inl (cI, 30, .inl (D 2))), (ha, .inl (cI, 30, .inl (D 3))), (b0, .inl (cI, 31, .inl (D 4))), (b1, .inl (cI, 31, .inl (D 5))), (b2, .inl (cI, 31, .inl (D 6))), (b3, .inl (cI, 31, .inl (D 7))), (b4, .inl (cI, 31, .inl (D 8))), (b5, .inl (cI, 31, .inl (D 9))), (b6, .inl (cI, 31, .inl (D 10)))] s.heap := hP
  have hl := lv_entry ([.ref mo]) (n := 1) (Nat.le_of_ble_eq_true rfl)
  rw [lg_entry_eq]
  generalize (lg_sl ([.ref mo]) ++ List.replicate (1 - (lg_sl ([.ref mo])).length) Slot.unset).toArray = ls at hl ⊢
  have hl : lv_has ls 1 [(0, .ref mo)] := hl
  refine lv_aload_n hx hb dX3_mean_0 rfl (lv_at hl 0 rfl) ?_
  refine lv_iconst (v := (nI 0)) hx hb dX3_mean_1 (by decide +kernel) ?_
  refine va_put (D := G) (ci := 3) (v := .int (nI 0)) (ty := .int) (C := RX3) (T := TX3) (N := 6) hx hb hts iX3_mean_X3 tyX3 tyX3_ok nmX3 hown hK hP hD hS 0 rfl rfl 0 (by decide) (hts (.fieldLink RX3 27 "GhostPantryModel" "thrown" "I") (by decide +kernel)) (fun _ h9 => h9) rfl (by decide +kernel) rfl rfl (Nat.le_of_ble_eq_true rfl) dX3_mean_2 (fun H_1 locs hP1 hD1 hS1 => ?_)
  clear hP hD hS
  have hP : va_P G vwCl [(mo, .inr (3, [.int (nI 0), .ref rr, .ref si, .ref nb, .ref ak, .ref ha])), (rr, .inl (cR, 7, .inr (.inr (.inr (.inr (RW [b0, b1, b2, b3, b4, b5, b6])))))), (si, .inl (cI, 7, .inl (D 0))), (nb, .inl (cI, 6, .inl (D 1))), (ak, .inl (cI, 30, .inl (D 2))), (ha, .inl (cI, 30, .inl (D 3))), (b0, .inl (cI, 31, .inl (D 4))), (b1, .inl (cI, 31, .inl (D 5))), (b2, .inl (cI, 31, .inl (D 6))), (b3, .inl (cI, 31, .inl (D 7))), (b4, .inl (cI, 31, .inl (D 8))), (b5, .inl (cI, 31, .inl (D 9))), (b6, .inl (cI, 31, .inl (D 10)))] H_1 := hP1
  have hD : va_D A [(mo, .inr (3, [.int (nI 0), .ref rr, .ref si, .ref nb, .ref ak, .ref ha])), (rr, .inl (cR, 7, .inr (.inr (.inr (.inr (RW [b0, b1, b2, b3, b4, b5, b6])))))), (si, .inl (cI, 7, .inl (D 0))), (nb, .inl (cI, 6, .inl (D 1))), (ak, .inl (cI, 30, .inl (D 2))), (ha, .inl (cI, 30, .inl (D 3))), (b0, .inl (cI, 31, .inl (D 4))), (b1, .inl (cI, 31, .inl (D 5))), (b2, .inl (cI, 31, .inl (D 6))), (b3, .inl (cI, 31, .inl (D 7))), (b4, .inl (cI, 31, .inl (D 8))), (b5, .inl (cI, 31, .inl (D 9))), (b6, .inl (cI, 31, .inl (D 10)))] := hD1
  have hS := hS1
  clear hP1 hD1 hS1
  refine lv_aload_n hx hb dX3_mean_5 rfl (lv_at hl 0 rfl) ?_
  refine va_get (D := G) (ci := 3) (v := .ref nb) (C := RX3) (T := TX3) (N := 6) hx hb hts iX3_mean_X3 hown hK hP 0 rfl rfl 3 (by decide) (hts (.fieldLink RX3 18 "GhostPantryModel" "numbers" "[I") (by decide +kernel)) (fun _ h9 => h9) rfl dX3_mean_6 ?_
  refine lv_iconst (v := (nI 2)) hx hb dX3_mean_9 (by decide +kernel) ?_
  refine g_iald hx hb hK hP 3 0 rfl rfl (i := 2) (by decide) (by decide) dX3_mean_10 (v := nA) (hM.2.2.2.2.2.2.2.2.2.2.2.2.2.2.1) ?_
  refine lv_if_ne (tgt := 18) hx hb dX3_mean_11 (by decide) (fun c_2 => ?_) (fun c_2 => ?_)
  · refine lv_aload_n hx hb dX3_mean_18 rfl (lv_at hl 0 rfl) ?_
    refine va_get (D := G) (ci := 3) (v := .ref nb) (C := RX3) (T := TX3) (N := 6) hx hb hts iX3_mean_X3 hown hK hP 0 rfl rfl 3 (by decide) (hts (.fieldLink RX3 18 "GhostPantryModel" "numbers" "[I") (by decide +kernel)) (fun _ h9 => h9) rfl dX3_mean_19 ?_
    refine lv_iconst (v := (nI 3)) hx hb dX3_mean_22 (by decide +kernel) ?_
    refine g_iald hx hb hK hP 3 0 rfl rfl (i := 3) (by decide) (by decide) dX3_mean_23 (v := nH) (hM.2.2.2.2.2.2.2.2.2.2.2.2.2.2.2.1) ?_
    refine lv_i2d hx hb dX3_mean_24 ?_
    refine lv_aload_n hx hb dX3_mean_25 rfl (lv_at hl 0 rfl) ?_
    refine va_get (D := G) (ci := 3) (v := .ref nb) (C := RX3) (T := TX3) (N := 6) hx hb hts iX3_mean_X3 hown hK hP 0 rfl rfl 3 (by decide) (hts (.fieldLink RX3 18 "GhostPantryModel" "numbers" "[I") (by decide +kernel)) (fun _ h9 => h9) rfl dX3_mean_26 ?_
    refine lv_iconst (v := (nI 2)) hx hb dX3_mean_29 (by decide +kernel) ?_
    refine g_iald hx hb hK hP 3 0 rfl rfl (i := 2) (by decide) (by decide) dX3_mean_30 (v := nA) (hM.2.2.2.2.2.2.2.2.2.2.2.2.2.2.1) ?_
    refine lv_i2d hx hb dX3_mean_31 ?_
    refine lv_ddiv_any hd0 lw_bits hx hb dX3_mean_32 (fun r9 d1 hal hd0 => ?_)
    have hP9 := hP.sub (ws' := [(mo, .inr (3, [.int (nI 0), .ref rr, .ref si, .ref nb, .ref ak, .ref ha])), (rr, .inl (cR, 7, .inr (.inr (.inr (.inr (RW [b0, b1, b2, b3, b4, b5, b6])))))), (si, .inl (cI, 7, .inl (D 0))), (nb, .inl (cI, 6, .inl (D 1))), (ak, .inl (cI, 30, .inl (D 2))), (ha, .inl (cI, 30, .inl (D 3))), (b0, .inl (cI, 31, .inl (D 4))), (b1, .inl (cI, 31, .inl (D 5))), (b2, .inl (cI, 31, .inl (D 6))), (b3, .inl (cI, 31, .inl (D 7))), (b4, .inl (cI, 31, .inl (D 8))), (b5, .inl (cI, 31, .inl (D 9))), (b6, .inl (cI, 31, .inl (D 10)))]) [0, 1, 2, 3, 4, 5, 6, 7, 8, 9, 10, 11, 12] rfl
    have hD9 := hD.sub (ws' := [(mo, .inr (3, [.int (nI 0), .ref rr, .ref si, .ref nb, .ref ak, .ref ha])), (rr, .inl (cR, 7, .inr (.inr (.inr (.inr (RW [b0, b1, b2, b3, b4, b5, b6])))))), (si, .inl (cI, 7, .inl (D 0))), (nb, .inl (cI, 6, .inl (D 1))), (ak, .inl (cI, 30, .inl (D 2))), (ha, .inl (cI, 30, .inl (D 3))), (b0, .inl (cI, 31, .inl (D 4))), (b1, .inl (cI, 31, .inl (D 5))), (b2, .inl (cI, 31, .inl (D 6))), (b3, .inl (cI, 31, .inl (D 7))), (b4, .inl (cI, 31, .inl (D 8))), (b5, .inl (cI, 31, .inl (D 9))), (b6, .inl (cI, 31, .inl (D 10)))]) [0, 1, 2, 3, 4, 5, 6, 7, 8, 9, 10, 11, 12] (by decide) rfl
    refine W.endD hd0 ?_
    exact W.dret (v := r9) hx hb hr (fun t ht hW => ⟨⟨r9, (), rfl, (mn_1 (by assumption) hal), g_at hP9 hK hD9 ht hW⟩, hS.F ht⟩) hS.2.2 dX3_mean_33
  · refine lv_dconst0 hx hb dX3_mean_14 ?_
    refine lv_goto (tgt := 33) hx hb dX3_mean_15 (by decide) ?_
    have hP9 := hP.sub (ws' := [(mo, .inr (3, [.int (nI 0), .ref rr, .ref si, .ref nb, .ref ak, .ref ha])), (rr, .inl (cR, 7, .inr (.inr (.inr (.inr (RW [b0, b1, b2, b3, b4, b5, b6])))))), (si, .inl (cI, 7, .inl (D 0))), (nb, .inl (cI, 6, .inl (D 1))), (ak, .inl (cI, 30, .inl (D 2))), (ha, .inl (cI, 30, .inl (D 3))), (b0, .inl (cI, 31, .inl (D 4))), (b1, .inl (cI, 31, .inl (D 5))), (b2, .inl (cI, 31, .inl (D 6))), (b3, .inl (cI, 31, .inl (D 7))), (b4, .inl (cI, 31, .inl (D 8))), (b5, .inl (cI, 31, .inl (D 9))), (b6, .inl (cI, 31, .inl (D 10)))]) [0, 1, 2, 3, 4, 5, 6, 7, 8, 9, 10, 11, 12] rfl
    have hD9 := hD.sub (ws' := [(mo, .inr (3, [.int (nI 0), .ref rr, .ref si, .ref nb, .ref ak, .ref ha])), (rr, .inl (cR, 7, .inr (.inr (.inr (.inr (RW [b0, b1, b2, b3, b4, b5, b6])))))), (si, .inl (cI, 7, .inl (D 0))), (nb, .inl (cI, 6, .inl (D 1))), (ak, .inl (cI, 30, .inl (D 2))), (ha, .inl (cI, 30, .inl (D 3))), (b0, .inl (cI, 31, .inl (D 4))), (b1, .inl (cI, 31, .inl (D 5))), (b2, .inl (cI, 31, .inl (D 6))), (b3, .inl (cI, 31, .inl (D 7))), (b4, .inl (cI, 31, .inl (D 8))), (b5, .inl (cI, 31, .inl (D 9))), (b6, .inl (cI, 31, .inl (D 10)))]) [0, 1, 2, 3, 4, 5, 6, 7, 8, 9, 10, 11, 12] (by decide) rfl
    refine W.endD hd0 ?_
    exact W.dret (v := FP.dconst0) hx hb hr (fun t ht hW => ⟨⟨FP.dconst0, (), rfl, (mn_0 (by assumption)), g_at hP9 hK hD9 ht hW⟩, hS.F ht⟩) hS.2.2 dX3_mean_33
