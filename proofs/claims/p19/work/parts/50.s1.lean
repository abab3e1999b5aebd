set_option maxRecDepth 20000 in
theorem iX3_many_X3 : ∀ w ∈ wsX30, w ∈ wsX3_many := by decide +kernel
set_option maxHeartbeats 4000000 in
set_option maxRecDepth 100000 in
theorem c_X3_many (l : Launch) (G : va_G) (cI : ClassId) (sm u1 u2 u3 u4 u5 u6 : Nat) (v1 v2 v3 v5 v6 : Nat → Int32) (rc bo ck : Nat) (nA nH nP nM : Int32) (k : Nat) (hk : k < 2 ^ 31) (sz : Nat) : Met l yX3_many wsX3_many ({ frames := 0, cells := 0, slots := 0, locals := 0 }) (va_Pc [.ref sm, .int (nI k)] (gpre G [(cI, .int)] [(sm, .inr (3, [.int (nI rc), .int (nI bo), .ref u1, .ref u2, .ref u3, .ref u4, .ref u5, .ref u6, .int (nI ck), .int nA, .int nH, .int nP, .int nM])), (u1, .inl (cI, 30, .inl v1)), (u2, .inl (cI, 30, .inl v2)), (u3, .inl (cI, 30, .inl v3)), (u5, .inl (cI, 30, .inl v5)), (u6, .inl (cI, 30, .inl v6))] sz)) (va_Qi (fun (z : Int32) (_ : Unit) => z = nI (mnF v1 (nI k) 30)) (fun (_ : Unit) t => gat G [(cI, .int)] (va_A [(sm, .inr (3, [.int (nI rc), .int (nI bo), .ref u1, .ref u2, .ref u3, .ref u4, .ref u5, .ref u6, .int (nI ck), .int nA, .int nH, .int nP, .int nM])), (u1, .inl (cI, 30, .inl v1)), (u2, .inl (cI, 30, .inl v2)), (u3, .inl (cI, 30, .inl v3)), (u5, .inl (cI, 30, .inl v5)), (u6, .inl (cI, 30, .inl v6))] sz) [(sm, .inr (3, [.int (nI rc), .int (nI bo), .ref u1, .ref u2, .ref u3, .ref u4, .ref u5, .ref u6, .int (nI ck), .int nA, .int nH, .int nP, .int nM])), (u1, .inl (cI, 30, .inl v1)), (u2, .inl (cI, 30, .inl v2)), (u3, .inl (cI, 30, .inl v3)), (u5, .inl (cI, 30, .inl v5)), (u6, .inl (cI, 30, .inl v6))] t) (va_A [(sm, .inr (3, [.int (nI rc), .int (nI bo), .ref u1, .ref u2, .ref u3, .ref u4, .ref u5, .ref u6, .int (nI ck), .int nA, .int nH, .int nP, .int nM])), (u1, .inl (cI, 30, .inl v1)), (u2, .inl (cI, 30, .inl v2)), (u3, .inl (cI, 30, .inl v3)), (u5, .inl (cI, 30, .inl v5)), (u6, .inl (cI, 30, .inl v6))] sz)) 0 0 (va_A [(sm, .inr (3, [.int (nI rc), .int (nI bo), .ref u1, .ref u2, .ref u3, .ref u4, .ref u5, .ref u6, .int (nI ck), .int nA, .int nH, .int nP, .int nM])), (u1, .inl (cI, 30, .inl v1)), (u2, .inl (cI, 30, .inl v2)), (u3, .inl (cI, 30, .inl v3)), (u5, .inl (cI, 30, .inl v5)), (u6, .inl (cI, 30, .inl v6))] sz) := by
  refine Met.ofW (cc := cX3_many) (maxL := 7) (ret := (some .int)) (by decide) rfl ?_
  intro p e s m args below meth c s₁ B hml hv
  obtain ⟨rfl, hsz, hP, hK, hD0⟩ := hv
  have hx := B.exec
  have hb := B.bytes
  have hr := B.returns
  have hts := atoms_spec (ws := wsX3_many) B.pre
  have hown : s.vm.findClass RX3 = some m.cls := findClass_of_methodNamed B.named
  have hlocks := B.notSynchronized
  subst hsz
  have hD := hD0.self (sz := s.heap.size)
  clear hD0
  generalize hAe : va_A [(sm, .inr (3, [.int (nI rc), .int (nI bo), .ref u1, .ref u2, .ref u3, .ref u4, .ref u5, .ref u6, .int (nI ck), .int nA, .int nH, .int nP, .int nM])), (u1, .inl (cI, 30, .inl v1)), (u2, .inl (cI, 30, .inl v2)), (u3, .inl (cI, 30, .inl v3)), (u5, .inl (cI, 30, .inl v5)), (u6, .inl (cI, 30, .inl v6))] s.heap.size = A at hD ⊢
  have hA : ∀ q : Nat, s.heap.size ≤ q → A q := fun q h => by rw [← hAe]; exact Or.inr h
  have hS : va_S A s.heap s.heap [] := va_S.rf
  have hP : va_P G vwCl [(sm, .inr (3, [.int (nI rc), .int (nI bo), .ref u1, .ref u2, .ref u3, .ref u4, .ref u5, .ref u6, .int (nI ck), .int nA, .int nH, .int nP, .int nM])), (u1, .inl (cI, 30, .inl v1)), (u2, .inl (cI, 30, .inl v2)), (u3, .inl (cI, 30, .inl v3)), (u5, .inl (cI, 30, .inl v5)), (u6, .inl (cI, 30, .inl v6))] s.heap := hP
  have hl := lv_entry ([.ref sm, .int (nI k)]) (n := 7) (Nat.le_of_ble_eq_true rfl)
  rw [lg_entry_eq]
  generalize (lg_sl ([.ref sm, .int (nI k)]) ++ List.replicate (7 - (lg_sl ([.ref sm, .int (nI k)])).length) Slot.unset).toArray = ls at hl ⊢
  have hl : lv_has ls 7 [(0, .ref sm), (1, .int (nI k))] := hl
  refine lv_iconst (v := (nI 0)) hx hb dX3_many_0 (by decide +kernel) ?_
  refine lv_istore_n (lv' := [(2, .int (nI 0)), (0, .ref sm), (1, .int (nI k))]) hx hb dX3_many_1 rfl hl (by decide) rfl (fun ls hl => ?_)
  refine lv_aload_n hx hb dX3_many_2 rfl (lv_at hl 1 rfl) ?_
  refine va_get (D := G) (ci := 3) (v := .ref u1) (C := RX3) (T := TX3) (N := 13) hx hb hts iX3_many_X3 hown hK hP 0 rfl rfl 2 (by decide) (hts (.fieldLink RX3 13 "GhostPantryLaw$Sim" "at" "[I") (by decide +kernel)) (fun _ h9 => h9) rfl dX3_many_3 ?_
  refine lv_astore_n (lv' := [(3, .ref u1), (2, .int (nI 0)), (0, .ref sm), (1, .int (nI k))]) hx hb dX3_many_6 rfl hl (by decide) rfl (fun ls hl => ?_)
  refine lv_aload_n hx hb dX3_many_7 rfl (lv_at hl 0 rfl) ?_
  refine va_alen hx hb hK hP 1 0 rfl rfl (v := (nI 30)) rfl dX3_many_8 ?_
  refine lv_istore (lv' := [(4, .int (nI 30)), (3, .ref u1), (2, .int (nI 0)), (0, .ref sm), (1, .int (nI k))]) hx hb dX3_many_9 hl (by decide) rfl (fun ls hl => ?_)
  refine lv_iconst (v := (nI 0)) hx hb dX3_many_11 (by decide +kernel) ?_
  refine lv_istore (lv' := [(5, .int (nI 0)), (4, .int (nI 30)), (3, .ref u1), (2, .int (nI 0)), (0, .ref sm), (1, .int (nI k))]) hx hb dX3_many_12 hl (by decide) rfl (fun ls hl => ?_)
  have hl0 := lv_sub (l' := [(5, .int (nI 0)), (2, .int (nI (mnF v1 (nI k) 0))), (4, .int (nI 30)), (3, .ref u1), (0, .ref sm), (1, .int (nI k))]) hl [0, 3, 1, 2, 4, 5] rfl
  clear hl
  have pk0 : 0 ≤ 30 ∧ lv_has ls 7 [(5, .int (nI 0)), (2, .int (nI (mnF v1 (nI k) 0))), (4, .int (nI 30)), (3, .ref u1), (0, .ref sm), (1, .int (nI k))] := ⟨(by decide), hl0⟩
  clear  hl0 
  obtain ⟨y, ey⟩ : ∃ y : Nat, y = 0 := ⟨0, rfl⟩
  have pk1 : 30 - y < (30 - 0) + 1 ∧ y ≤ 30 ∧ lv_has ls 7 [(5, .int (nI y)), (2, .int (nI (mnF v1 (nI k) y))), (4, .int (nI 30)), (3, .ref u1), (0, .ref sm), (1, .int (nI k))] := ⟨by omega, by rw [ey]; exact pk0⟩
  clear pk0 ey
  generalize (30 - 0) + 1 = ny at pk1
  induction ny generalizing y ls with
  | zero => exact absurd pk1.1 (Nat.not_lt_zero _)
  | succ ny ihy =>
    obtain ⟨hny, hy30, hl⟩ := pk1
    refine lv_iload hx hb dX3_many_14 (lv_at hl 0 rfl) ?_
    refine lv_iload hx hb dX3_many_16 (lv_at hl 2 rfl) ?_
    refine g_icmp_ge (tgt := 47) hx hb dX3_many_18 (by decide) (by omega) (by decide) (fun c_1 => ?_) (fun c_1 => ?_)
    · refine lv_iload_n hx hb dX3_many_47 rfl (lv_at hl 1 rfl) ?_
      have ey : y = 30 := by omega
      rw [ey]
      have hle := mnF_le (f := v1) (r := nI k) (n := 30)
      have hP9 := hP.sub (ws' := [(sm, .inr (3, [.int (nI rc), .int (nI bo), .ref u1, .ref u2, .ref u3, .ref u4, .ref u5, .ref u6, .int (nI ck), .int nA, .int nH, .int nP, .int nM])), (u1, .inl (cI, 30, .inl v1)), (u2, .inl (cI, 30, .inl v2)), (u3, .inl (cI, 30, .inl v3)), (u5, .inl (cI, 30, .inl v5)), (u6, .inl (cI, 30, .inl v6))]) [0, 1, 2, 3, 4, 5] rfl
      have hD9 := hD.sub (ws' := [(sm, .inr (3, [.int (nI rc), .int (nI bo), .ref u1, .ref u2, .ref u3, .ref u4, .ref u5, .ref u6, .int (nI ck), .int nA, .int nH, .int nP, .int nM])), (u1, .inl (cI, 30, .inl v1)), (u2, .inl (cI, 30, .inl v2)), (u3, .inl (cI, 30, .inl v3)), (u5, .inl (cI, 30, .inl v5)), (u6, .inl (cI, 30, .inl v6))]) [0, 1, 2, 3, 4, 5] (by decide) rfl
      exact W.iret (v := (nI (mnF v1 (nI k) 30))) hx hb hr (fun t ht hW => ⟨⟨(nI (mnF v1 (nI k) 30)), (), rfl, rfl, g_at hP9 hK hD9 ht hW⟩, hS.F ht⟩) hS.2.2 dX3_many_48
    · refine lv_aload_n hx hb dX3_many_21 rfl (lv_at hl 3 rfl) ?_
      refine lv_iload hx hb dX3_many_22 (lv_at hl 0 rfl) ?_
      refine g_iald hx hb hK hP 1 0 rfl rfl (i := y) (by omega) (by decide) dX3_many_24 (v := (v1 y)) (rfl) ?_
      refine lv_istore (lv' := [(6, .int (v1 y)), (5, .int (nI y)), (2, .int (nI (mnF v1 (nI k) y))), (4, .int (nI 30)), (3, .ref u1), (0, .ref sm), (1, .int (nI k))]) hx hb dX3_many_25 hl (by decide) rfl (fun ls hl => ?_)
      refine lv_iload_n hx hb dX3_many_27 rfl (lv_at hl 2 rfl) ?_
      refine lv_iload hx hb dX3_many_28 (lv_at hl 0 rfl) ?_
      refine lv_iload_n hx hb dX3_many_30 rfl (lv_at hl 6 rfl) ?_
      refine lv_icmp_ne (tgt := 38) hx hb dX3_many_31 (by decide) (fun c_2 => ?_) (fun c_2 => ?_)
      · refine lv_iconst (v := (nI 0)) hx hb dX3_many_38 (by decide +kernel) ?_
        refine g_iadd hx hb dX3_many_39 ?_
        refine lv_istore_n (lv' := [(2, .int (nI ((mnF v1 (nI k) y) + 0))), (6, .int (v1 y)), (5, .int (nI y)), (4, .int (nI 30)), (3, .ref u1), (0, .ref sm), (1, .int (nI k))]) hx hb dX3_many_40 rfl hl (by decide) rfl (fun ls hl => ?_)
        refine lv_iinc (v := (nI (y + 1))) (lv' := [(5, .int (nI (y + 1))), (2, .int (nI ((mnF v1 (nI k) y) + 0))), (6, .int (v1 y)), (4, .int (nI 30)), (3, .ref u1), (0, .ref sm), (1, .int (nI k))]) hx hb dX3_many_41 hl (k := 2) rfl (nI_1 _) (by decide) rfl (fun ls hl => ?_)
        refine lv_goto (tgt := 14) hx hb dX3_many_44 (by decide) ?_
        have hl1 : lv_has ls 7 [(5, .int (nI (y + 1))), (2, .int (nI (mnF v1 (nI k) (y + 1)))), (6, .int (v1 y)), (4, .int (nI 30)), (3, .ref u1), (0, .ref sm), (1, .int (nI k))] := by
          rw [mnF_f c_2]; exact hl
        clear hl
        have hl := hl1
        clear hl1
        have hl9 := lv_sub (l' := [(5, .int (nI (y + 1))), (2, .int (nI (mnF v1 (nI k) (y + 1)))), (4, .int (nI 30)), (3, .ref u1), (0, .ref sm), (1, .int (nI k))]) hl [0, 1, 3, 4, 5, 6] rfl
        exact ihy _ _ ⟨by omega, (by omega), hl9⟩
      · refine lv_iconst (v := (nI 1)) hx hb dX3_many_34 (by decide +kernel) ?_
        refine lv_goto (tgt := 39) hx hb dX3_many_35 (by decide) ?_
        refine g_iadd hx hb dX3_many_39 ?_
        refine lv_istore_n (lv' := [(2, .int (nI ((mnF v1 (nI k) y) + 1))), (6, .int (v1 y)), (5, .int (nI y)), (4, .int (nI 30)), (3, .ref u1), (0, .ref sm), (1, .int (nI k))]) hx hb dX3_many_40 rfl hl (by decide) rfl (fun ls hl => ?_)
        refine lv_iinc (v := (nI (y + 1))) (lv' := [(5, .int (nI (y + 1))), (2, .int (nI ((mnF v1 (nI k) y) + 1))), (6, .int (v1 y)), (4, .int (nI 30)), (3, .ref u1), (0, .ref sm), (1, .int (nI k))]) hx hb dX3_many_41 hl (k := 2) rfl (nI_1 _) (by decide) rfl (fun ls hl => ?_)
        refine lv_goto (tgt := 14) hx hb dX3_many_44 (by decide) ?_
        have hl1 : lv_has ls 7 [(5, .int (nI (y + 1))), (2, .int (nI (mnF v1 (nI k) (y + 1)))), (6, .int (v1 y)), (4, .int (nI 30)), (3, .ref u1), (0, .ref sm), (1, .int (nI k))] := by
          rw [mnF_t c_2]; exact hl
        clear hl
        have hl := hl1
        clear hl1
        have hl9 := lv_sub (l' := [(5, .int (nI (y + 1))), (2, .int (nI (mnF v1 (nI k) (y + 1)))), (4, .int (nI 30)), (3, .ref u1), (0, .ref sm), (1, .int (nI k))]) hl [0, 1, 3, 4, 5, 6] rfl
        exact ihy _ _ ⟨by omega, (by omega), hl9⟩

set_option maxRecDepth 20000 in
theorem iX3_last_X3 : ∀ w ∈ wsX30, w ∈ wsX3_last := by decide +kernel
set_option maxHeartbeats 4000000 in
set_option maxRecDepth 100000 in
theorem c_X3_last (l : Launch) (G : va_G) (cI : ClassId) (sm u1 u2 u3 u4 u5 u6 : Nat) (v1 v2 v3 v5 v6 : Nat → Int32) (rc bo ck : Nat) (nA nH nP nM : Int32) (k : Nat) (sz : Nat) : Met l yX3_last wsX3_last ({ frames := 0, cells := 0, slots := 0, locals := 0 }) (va_Pc [.ref sm, .int (nI k)] (gpre G [(cI, .int)] [(sm, .inr (3, [.int (nI rc), .int (nI bo), .ref u1, .ref u2, .ref u3, .ref u4, .ref u5, .ref u6, .int (nI ck), .int nA, .int nH, .int nP, .int nM])), (u1, .inl (cI, 30, .inl v1)), (u2, .inl (cI, 30, .inl v2)), (u3, .inl (cI, 30, .inl v3)), (u5, .inl (cI, 30, .inl v5)), (u6, .inl (cI, 30, .inl v6))] sz)) (va_Qi (fun (z : Int32) (_ : Unit) => z = lsF v1 v2 (nI k) 30) (fun (_ : Unit) t => gat G [(cI, .int)] (va_A [(sm, .inr (3, [.int (nI rc), .int (nI bo), .ref u1, .ref u2, .ref u3, .ref u4, .ref u5, .ref u6, .int (nI ck), .int nA, .int nH, .int nP, .int nM])), (u1, .inl (cI, 30, .inl v1)), (u2, .inl (cI, 30, .inl v2)), (u3, .inl (cI, 30, .inl v3)), (u5, .inl (cI, 30, .inl v5)), (u6, .inl (cI, 30, .inl v6))] sz) [(sm, .inr (3, [.int (nI rc), .int (nI bo), .ref u1, .ref u2, .ref u3, .ref u4, .ref u5, .ref u6, .int (nI ck), .int nA, .int nH, .int nP, .int nM])), (u1, .inl (cI, 30, .inl v1)), (u2, .inl (cI, 30, .inl v2)), (u3, .inl (cI, 30, .inl v3)), (u5, .inl (cI, 30, .inl v5)), (u6, .inl (cI, 30, .inl v6))] t) (va_A [(sm, .inr (3, [.int (nI rc), .int (nI bo), .ref u1, .ref u2, .ref u3, .ref u4, .ref u5, .ref u6, .int (nI ck), .int nA, .int nH, .int nP, .int nM])), (u1, .inl (cI, 30, .inl v1)), (u2, .inl (cI, 30, .inl v2)), (u3, .inl (cI, 30, .inl v3)), (u5, .inl (cI, 30, .inl v5)), (u6, .inl (cI, 30, .inl v6))] sz)) 0 0 (va_A [(sm, .inr (3, [.int (nI rc), .int (nI bo), .ref u1, .ref u2, .ref u3, .ref u4, .ref u5, .ref u6, .int (nI ck), .int nA, .int nH, .int nP, .int nM])), (u1, .inl (cI, 30, .inl v1)), (u2, .inl (cI, 30, .inl v2)), (u3, .inl (cI, 30, .inl v3)), (u5, .inl (cI, 30, .inl v5)), (u6, .inl (cI, 30, .inl v6))] sz) := by
  refine Met.ofW (cc := cX3_last) (maxL := 4) (ret := (some .int)) (by decide) rfl ?_
  intro p e s m args below meth c s₁ B hml hv
  obtain ⟨rfl, hsz, hP, hK, hD0⟩ := hv
  have hx := B.exec
  have hb := B.bytes
  have hr := B.returns
  have hts := atoms_spec (ws := wsX3_last) B.pre
  have hown : s.vm.findClass RX3 = some m.cls := findClass_of_methodNamed B.named
  have hlocks := B.notSynchronized
  subst hsz
  have hD := hD0.self (sz := s.heap.size)
  clear hD0
  generalize hAe : va_A [(sm, .inr (3, [.int (nI rc), .int (nI bo), .ref u1, .ref u2, .ref u3, .ref u4, .ref u5, .ref u6, .int (nI ck), .int nA, .int nH, .int nP, .int nM])), (u1, .inl (cI, 30, .inl v1)), (u2, .inl (cI, 30, .inl v2)), (u3, .inl (cI, 30, .inl v3)), (u5, .inl (cI, 30, .inl v5)), (u6, .inl (cI, 30, .inl v6))] s.heap.size = A at hD ⊢
  have hA : ∀ q : Nat, s.heap.size ≤ q → A q := fun q h => by rw [← hAe]; exact Or.inr h
  have hS : va_S A s.heap s.heap [] := va_S.rf
  have hP : va_P G vwCl [(sm, .inr (3, [.int (nI rc), .int (nI bo), .ref u1, .ref u2, .ref u3, .ref u4, .ref u5, .ref u6, .int (nI ck), .int nA, .int nH, .int nP, .int nM])), (u1, .inl (cI, 30, .inl v1)), (u2, .inl (cI, 30, .inl v2)), (u3, .inl (cI, 30, .inl v3)), (u5, .inl (cI, 30, .inl v5)), (u6, .inl (cI, 30, .inl v6))] s.heap := hP
  have hl := lv_entry ([.ref sm, .int (nI k)]) (n := 4) (Nat.le_of_ble_eq_true rfl)
  rw [lg_entry_eq]
  generalize (lg_sl ([.ref sm, .int (nI k)]) ++ List.replicate (4 - (lg_sl ([.ref sm, .int (nI k)])).length) Slot.unset).toArray = ls at hl ⊢
  have hl : lv_has ls 4 [(0, .ref sm), (1, .int (nI k))] := hl
  refine lv_iconst (v := (-1)) hx hb dX3_last_0 (by decide +kernel) ?_
  refine lv_istore_n (lv' := [(2, .int (-1)), (0, .ref sm), (1, .int (nI k))]) hx hb dX3_last_1 rfl hl (by decide) rfl (fun ls hl => ?_)
  refine lv_iconst (v := (nI 0)) hx hb dX3_last_2 (by decide +kernel) ?_
  refine lv_istore_n (lv' := [(3, .int (nI 0)), (2, .int (-1)), (0, .ref sm), (1, .int (nI k))]) hx hb dX3_last_3 rfl hl (by decide) rfl (fun ls hl => ?_)
  have hl1 : lv_has ls 4 [(3, .int (nI 0)), (2, .int (lsF v1 v2 (nI k) 0)), (0, .ref sm), (1, .int (nI k))] := by
    exact hl
  clear hl
  have hl := hl1
  clear hl1
  have hl0 := lv_sub (l' := [(3, .int (nI 0)), (2, .int (lsF v1 v2 (nI k) 0)), (0, .ref sm), (1, .int (nI k))]) hl [0, 1, 2, 3] rfl
  clear hl
  have pk0 : 0 ≤ 30 ∧ lv_has ls 4 [(3, .int (nI 0)), (2, .int (lsF v1 v2 (nI k) 0)), (0, .ref sm), (1, .int (nI k))] := ⟨(by decide), hl0⟩
  clear  hl0 
  obtain ⟨y, ey⟩ : ∃ y : Nat, y = 0 := ⟨0, rfl⟩
  have pk1 : 30 - y < (30 - 0) + 1 ∧ y ≤ 30 ∧ lv_has ls 4 [(3, .int (nI y)), (2, .int (lsF v1 v2 (nI k) y)), (0, .ref sm), (1, .int (nI k))] := ⟨by omega, by rw [ey]; exact pk0⟩
  clear pk0 ey
  generalize (30 - 0) + 1 = ny at pk1
  induction ny generalizing y ls with
  | zero => exact absurd pk1.1 (Nat.not_lt_zero _)
  | succ ny ihy =>
    obtain ⟨hny, hy30, hl⟩ := pk1
    refine lv_iload_n hx hb dX3_last_4 rfl (lv_at hl 0 rfl) ?_
    refine lv_bipush (v := (nI 30)) hx hb dX3_last_5 (by decide +kernel) ?_
    refine g_icmp_ge (tgt := 47) hx hb dX3_last_7 (by decide) (by omega) (by decide) (fun c_1 => ?_) (fun c_1 => ?_)
    · refine lv_iload_n hx hb dX3_last_47 rfl (lv_at hl 1 rfl) ?_
      have ey : y = 30 := by omega
      rw [ey]
      have hP9 := hP.sub (ws' := [(sm, .inr (3, [.int (nI rc), .int (nI bo), .ref u1, .ref u2, .ref u3, .ref u4, .ref u5, .ref u6, .int (nI ck), .int nA, .int nH, .int nP, .int nM])), (u1, .inl (cI, 30, .inl v1)), (u2, .inl (cI, 30, .inl v2)), (u3, .inl (cI, 30, .inl v3)), (u5, .inl (cI, 30, .inl v5)), (u6, .inl (cI, 30, .inl v6))]) [0, 1, 2, 3, 4, 5] rfl
      have hD9 := hD.sub (ws' := [(sm, .inr (3, [.int (nI rc), .int (nI bo), .ref u1, .ref u2, .ref u3, .ref u4, .ref u5, .ref u6, .int (nI ck), .int nA, .int nH, .int nP, .int nM])), (u1, .inl (cI, 30, .inl v1)), (u2, .inl (cI, 30, .inl v2)), (u3, .inl (cI, 30, .inl v3)), (u5, .inl (cI, 30, .inl v5)), (u6, .inl (cI, 30, .inl v6))]) [0, 1, 2, 3, 4, 5] (by decide) rfl
      exact W.iret (v := (lsF v1 v2 (nI k) 30)) hx hb hr (fun t ht hW => ⟨⟨(lsF v1 v2 (nI k) 30), (), rfl, rfl, g_at hP9 hK hD9 ht hW⟩, hS.F ht⟩) hS.2.2 dX3_last_48
    · refine lv_aload_n hx hb dX3_last_10 rfl (lv_at hl 2 rfl) ?_
      refine va_get (D := G) (ci := 3) (v := .ref u1) (C := RX3) (T := TX3) (N := 13) hx hb hts iX3_last_X3 hown hK hP 0 rfl rfl 2 (by decide) (hts (.fieldLink RX3 13 "GhostPantryLaw$Sim" "at" "[I") (by decide +kernel)) (fun _ h9 => h9) rfl dX3_last_11 ?_
      refine lv_iload_n hx hb dX3_last_14 rfl (lv_at hl 0 rfl) ?_
      refine g_iald hx hb hK hP 1 0 rfl rfl (i := y) (by omega) (by decide) dX3_last_15 (v := (v1 y)) (rfl) ?_
      refine lv_iload_n hx hb dX3_last_16 rfl (lv_at hl 3 rfl) ?_
      refine lv_icmp_ne (tgt := 41) hx hb dX3_last_17 (by decide) (fun c_2 => ?_) (fun c_2 => ?_)
      · refine lv_iinc (v := (nI (y + 1))) (lv' := [(3, .int (nI (y + 1))), (2, .int (lsF v1 v2 (nI k) y)), (0, .ref sm), (1, .int (nI k))]) hx hb dX3_last_41 hl (k := 0) rfl (nI_1 _) (by decide) rfl (fun ls hl => ?_)
        refine lv_goto (tgt := 4) hx hb dX3_last_44 (by decide) ?_
        have hl1 : lv_has ls 4 [(3, .int (nI (y + 1))), (2, .int (lsF v1 v2 (nI k) (y + 1))), (0, .ref sm), (1, .int (nI k))] := by
          rw [lsF_f c_2]; exact hl
        clear hl
        have hl := hl1
        clear hl1
        have hl9 := lv_sub (l' := [(3, .int (nI (y + 1))), (2, .int (lsF v1 v2 (nI k) (y + 1))), (0, .ref sm), (1, .int (nI k))]) hl [0, 1, 2, 3] rfl
        exact ihy _ _ ⟨by omega, (by omega), hl9⟩
      · rcases lsF_cases (fa := v1) (fb := v2) (r := nI k) y with eb9 | ⟨b9, hb9, eb9⟩
        · have hl1 : lv_has ls 4 [(3, .int (nI y)), (2, .int (-1)), (0, .ref sm), (1, .int (nI k))] := by
            rw [← eb9]; exact hl
          clear hl
          have hl := hl1
          clear hl1
          refine lv_iload_n hx hb dX3_last_20 rfl (lv_at hl 1 rfl) ?_
          refine lv_if_lt (tgt := 39) hx hb dX3_last_21 (by decide) (fun c_3 => ?_) (fun c_3 => False.elim (by exact absurd m1_lt c_3))
          refine lv_iload_n hx hb dX3_last_39 rfl (lv_at hl 0 rfl) ?_
          refine lv_istore_n (lv' := [(2, .int (nI y)), (3, .int (nI y)), (0, .ref sm), (1, .int (nI k))]) hx hb dX3_last_40 rfl hl (by decide) rfl (fun ls hl => ?_)
          refine lv_iinc (v := (nI (y + 1))) (lv' := [(3, .int (nI (y + 1))), (2, .int (nI y)), (0, .ref sm), (1, .int (nI k))]) hx hb dX3_last_41 hl (k := 1) rfl (nI_1 _) (by decide) rfl (fun ls hl => ?_)
          refine lv_goto (tgt := 4) hx hb dX3_last_44 (by decide) ?_
          have hl1 : lv_has ls 4 [(3, .int (nI (y + 1))), (2, .int (lsF v1 v2 (nI k) (y + 1))), (0, .ref sm), (1, .int (nI k))] := by
            rw [lsF_n c_2 eb9]; exact hl
          clear hl
          have hl := hl1
          clear hl1
          have hl9 := lv_sub (l' := [(3, .int (nI (y + 1))), (2, .int (lsF v1 v2 (nI k) (y + 1))), (0, .ref sm), (1, .int (nI k))]) hl [0, 1, 2, 3] rfl
          exact ihy _ _ ⟨by omega, (by omega), hl9⟩
        · have hl1 : lv_has ls 4 [(3, .int (nI y)), (2, .int (nI b9)), (0, .ref sm), (1, .int (nI k))] := by
            rw [← eb9]; exact hl
          clear hl
          have hl := hl1
          clear hl1
          refine lv_iload_n hx hb dX3_last_20 rfl (lv_at hl 1 rfl) ?_
          refine g_if_lt (tgt := 39) hx hb dX3_last_21 (by decide) (by omega) ?_
          refine lv_aload_n hx hb dX3_last_24 rfl (lv_at hl 2 rfl) ?_
          refine va_get (D := G) (ci := 3) (v := .ref u2) (C := RX3) (T := TX3) (N := 13) hx hb hts iX3_last_X3 hown hK hP 0 rfl rfl 3 (by decide) (hts (.fieldLink RX3 17 "GhostPantryLaw$Sim" "since" "[I") (by decide +kernel)) (fun _ h9 => h9) rfl dX3_last_25 ?_
          refine lv_iload_n hx hb dX3_last_28 rfl (lv_at hl 0 rfl) ?_
          refine g_iald hx hb hK hP 2 0 rfl rfl (i := y) (by omega) (by decide) dX3_last_29 (v := (v2 y)) (rfl) ?_
          refine lv_aload_n hx hb dX3_last_30 rfl (lv_at hl 2 rfl) ?_
          refine va_get (D := G) (ci := 3) (v := .ref u2) (C := RX3) (T := TX3) (N := 13) hx hb hts iX3_last_X3 hown hK hP 0 rfl rfl 3 (by decide) (hts (.fieldLink RX3 17 "GhostPantryLaw$Sim" "since" "[I") (by decide +kernel)) (fun _ h9 => h9) rfl dX3_last_31 ?_
          refine lv_iload_n hx hb dX3_last_34 rfl (lv_at hl 1 rfl) ?_
          refine g_iald hx hb hK hP 2 0 rfl rfl (i := b9) (by omega) (by decide) dX3_last_35 (v := (v2 b9)) (rfl) ?_
          refine lv_icmp_ge (tgt := 41) hx hb dX3_last_36 (by decide) (fun c_5 => ?_) (fun c_5 => ?_)
          · refine lv_iinc (v := (nI (y + 1))) (lv' := [(3, .int (nI (y + 1))), (2, .int (nI b9)), (0, .ref sm), (1, .int (nI k))]) hx hb dX3_last_41 hl (k := 0) rfl (nI_1 _) (by decide) rfl (fun ls hl => ?_)
            refine lv_goto (tgt := 4) hx hb dX3_last_44 (by decide) ?_
            have hl1 : lv_has ls 4 [(3, .int (nI (y + 1))), (2, .int (lsF v1 v2 (nI k) (y + 1))), (0, .ref sm), (1, .int (nI k))] := by
              rw [lsF_g (by omega) eb9 (Int32.not_lt.mpr c_5)]; exact hl
            clear hl
            have hl := hl1
            clear hl1
            have hl9 := lv_sub (l' := [(3, .int (nI (y + 1))), (2, .int (lsF v1 v2 (nI k) (y + 1))), (0, .ref sm), (1, .int (nI k))]) hl [0, 1, 2, 3] rfl
            exact ihy _ _ ⟨by omega, (by omega), hl9⟩
          · refine lv_iload_n hx hb dX3_last_39 rfl (lv_at hl 0 rfl) ?_
            refine lv_istore_n (lv' := [(2, .int (nI y)), (3, .int (nI y)), (0, .ref sm), (1, .int (nI k))]) hx hb dX3_last_40 rfl hl (by decide) rfl (fun ls hl => ?_)
            refine lv_iinc (v := (nI (y + 1))) (lv' := [(3, .int (nI (y + 1))), (2, .int (nI y)), (0, .ref sm), (1, .int (nI k))]) hx hb dX3_last_41 hl (k := 1) rfl (nI_1 _) (by decide) rfl (fun ls hl => ?_)
            refine lv_goto (tgt := 4) hx hb dX3_last_44 (by decide) ?_
            have hl1 : lv_has ls 4 [(3, .int (nI (y + 1))), (2, .int (lsF v1 v2 (nI k) (y + 1))), (0, .ref sm), (1, .int (nI k))] := by
              rw [lsF_t c_2 (by omega) eb9 (Int32.not_le.mp c_5)]; exact hl
            clear hl
            have hl := hl1
            clear hl1
            have hl9 := lv_sub (l' := [(3, .int (nI (y + 1))), (2, .int (lsF v1 v2 (nI k) (y + 1))), (0, .ref sm), (1, .int (nI k))]) hl [0, 1, 2, 3] rfl
            exact ihy _ _ ⟨by omega, (by omega), hl9⟩

set_option maxRecDepth 20000 in
theorem iX3_put_X3 : ∀ w ∈ wsX30, w ∈ wsX3_put := by decide +kernel
set_option maxHeartbeats 4000000 in
set_option maxRecDepth 100000 in
theorem c_X3_put (l : Launch) (G : va_G) (cI : ClassId) (sm u1 u2 u3 u4 u5 u6 : Nat) (v1 v2 v3 v5 v6 : Nat → Int32) (rc bo ck : Nat) (nA nH nP nM : Int32) (j r : Nat) (hj : j < 30) (sz : Nat) : Met l yX3_put wsX3_put ({ frames := 0, cells := 0, slots := 0, locals := 0 }) (va_Pc [.ref sm, .int (nI j), .int (nI r)] (gpre G [(cI, .int)] [(sm, .inr (3, [.int (nI rc), .int (nI bo), .ref u1, .ref u2, .ref u3, .ref u4, .ref u5, .ref u6, .int (nI ck), .int nA, .int nH, .int nP, .int nM])), (u1, .inl (cI, 30, .inl v1)), (u2, .inl (cI, 30, .inl v2)), (u3, .inl (cI, 30, .inl v3)), (u5, .inl (cI, 30, .inl v5)), (u6, .inl (cI, 30, .inl v6))] sz)) (va_Qv (fun (_ : Unit) => True) (fun (_ : Unit) t => gat G [(cI, .int)] (va_A [(sm, .inr (3, [.int (nI rc), .int (nI bo), .ref u1, .ref u2, .ref u3, .ref u4, .ref u5, .ref u6, .int (nI ck), .int nA, .int nH, .int nP, .int nM])), (u1, .inl (cI, 30, .inl v1)), (u2, .inl (cI, 30, .inl v2)), (u3, .inl (cI, 30, .inl v3)), (u5, .inl (cI, 30, .inl v5)), (u6, .inl (cI, 30, .inl v6))] sz) [(sm, .inr (3, [.int (nI rc), .int (nI bo), .ref u1, .ref u2, .ref u3, .ref u4, .ref u5, .ref u6, .int (nI (ck + 1)), .int nA, .int nH, .int nP, .int nM])), (u1, .inl (cI, 30, .inl (upd v1 j (nI r)))), (u2, .inl (cI, 30, .inl (upd v2 j (nI (ck + 1))))), (u3, .inl (cI, 30, .inl v3)), (u5, .inl (cI, 30, .inl v5)), (u6, .inl (cI, 30, .inl v6))] t) (va_A [(sm, .inr (3, [.int (nI rc), .int (nI bo), .ref u1, .ref u2, .ref u3, .ref u4, .ref u5, .ref u6, .int (nI ck), .int nA, .int nH, .int nP, .int nM])), (u1, .inl (cI, 30, .inl v1)), (u2, .inl (cI, 30, .inl v2)), (u3, .inl (cI, 30, .inl v3)), (u5, .inl (cI, 30, .inl v5)), (u6, .inl (cI, 30, .inl v6))] sz)) 0 0 (va_A [(sm, .inr (3, [.int (nI rc), .int (nI bo), .ref u1, .ref u2, .ref u3, .ref u4, .ref u5, .ref u6, .int (nI ck), .int nA, .int nH, .int nP, .int nM])), (u1, .inl (cI, 30, .inl v1)), (u2, .inl (cI, 30, .inl v2)), (u3, .inl (cI, 30, .inl v3)), (u5, .inl (cI, 30, .inl v5)), (u6, .inl (cI, 30, .inl v6))] sz) := by
  refine Met.ofW (cc := cX3_put) (maxL := 3) (ret := none) (by decide) rfl ?_
  intro p e s m args below meth c s₁ B hml hv
  obtain ⟨rfl, hsz, hP, hK, hD0⟩ := hv
  have hx := B.exec
  have hb := B.bytes
  have hr := B.returns
  have hts := atoms_spec (ws := wsX3_put) B.pre
  have hown : s.vm.findClass RX3 = some m.cls := findClass_of_methodNamed B.named
  have hlocks := B.notSynchronized
  subst hsz
  have hD := hD0.self (sz := s.heap.size)
  clear hD0
  generalize hAe : va_A [(sm, .inr (3, [.int (nI rc), .int (nI bo), .ref u1, .ref u2, .ref u3, .ref u4, .ref u5, .ref u6, .int (nI ck), .int nA, .int nH, .int nP, .int nM])), (u1, .inl (cI, 30, .inl v1)), (u2, .inl (cI, 30, .inl v2)), (u3, .inl (cI, 30, .inl v3)), (u5, .inl (cI, 30, .inl v5)), (u6, .inl (cI, 30, .inl v6))] s.heap.size = A at hD ⊢
  have hA : ∀ q : Nat, s.heap.size ≤ q → A q := fun q h => by rw [← hAe]; exact Or.inr h
  have hS : va_S A s.heap s.heap [] := va_S.rf
  have hP : va_P G vwCl [(sm, .inr (3, [.int (nI rc), .int (nI bo), .ref u1, .ref u2, .ref u3, .ref u4, .ref u5, .ref u6, .int (nI ck), .int nA, .int nH, .int nP, .int nM])), (u1, .inl (cI, 30, .inl v1)), (u2, .inl (cI, 30, .inl v2)), (u3, .inl (cI, 30, .inl v3)), (u5, .inl (cI, 30, .inl v5)), (u6, .inl (cI, 30, .inl v6))] s.heap := hP
  have hl := lv_entry ([.ref sm, .int (nI j), .int (nI r)]) (n := 3) (Nat.le_of_ble_eq_true rfl)
  rw [lg_entry_eq]
  generalize (lg_sl ([.ref sm, .int (nI j), .int (nI r)]) ++ List.replicate (3 - (lg_sl ([.ref sm, .int (nI j), .int (nI r)])).length) Slot.unset).toArray = ls at hl ⊢
  have hl : lv_has ls 3 [(0, .ref sm), (1, .int (nI j)), (2, .int (nI r))] := hl
  refine lv_aload_n hx hb dX3_put_0 rfl (lv_at hl 0 rfl) ?_
  refine lv_dup hx hb dX3_put_1 rfl ?_
  refine va_get (D := G) (ci := 3) (v := .int (nI ck)) (C := RX3) (T := TX3) (N := 13) hx hb hts iX3_put_X3 hown hK hP 0 rfl rfl 8 (by decide) (hts (.fieldLink RX3 41 "GhostPantryLaw$Sim" "clock" "I") (by decide +kernel)) (fun _ h9 => h9) rfl dX3_put_2 ?_
  refine lv_iconst (v := (nI 1)) hx hb dX3_put_5 (by decide +kernel) ?_
  refine g_iadd hx hb dX3_put_6 ?_
  refine va_put (D := G) (ci := 3) (v := .int (nI (ck + 1))) (ty := .int) (C := RX3) (T := TX3) (N := 13) hx hb hts iX3_put_X3 tyX3 tyX3_ok nmX3 hown hK hP hD hS 0 rfl rfl 8 (by decide) (hts (.fieldLink RX3 41 "GhostPantryLaw$Sim" "clock" "I") (by decide +kernel)) (fun _ h9 => h9) rfl (by decide +kernel) rfl rfl (Nat.le_of_ble_eq_true rfl) dX3_put_7 (fun H_1 locs hP1 hD1 hS1 => ?_)
  clear hP hD hS
  have hP : va_P G vwCl [(sm, .inr (3, [.int (nI rc), .int (nI bo), .ref u1, .ref u2, .ref u3, .ref u4, .ref u5, .ref u6, .int (nI (ck + 1)), .int nA, .int nH, .int nP, .int nM])), (u1, .inl (cI, 30, .inl v1)), (u2, .inl (cI, 30, .inl v2)), (u3, .inl (cI, 30, .inl v3)), (u5, .inl (cI, 30, .inl v5)), (u6, .inl (cI, 30, .inl v6))] H_1 := hP1
  have hD : va_D A [(sm, .inr (3, [.int (nI rc), .int (nI bo), .ref u1, .ref u2, .ref u3, .ref u4, .ref u5, .ref u6, .int (nI (ck + 1)), .int nA, .int nH, .int nP, .int nM])), (u1, .inl (cI, 30, .inl v1)), (u2, .inl (cI, 30, .inl v2)), (u3, .inl (cI, 30, .inl v3)), (u5, .inl (cI, 30, .inl v5)), (u6, .inl (cI, 30, .inl v6))] := hD1
  have hS := hS1
  clear hP1 hD1 hS1
  refine lv_aload_n hx hb dX3_put_10 rfl (lv_at hl 0 rfl) ?_
  refine va_get (D := G) (ci := 3) (v := .ref u1) (C := RX3) (T := TX3) (N := 13) hx hb hts iX3_put_X3 hown hK hP 0 rfl rfl 2 (by decide) (hts (.fieldLink RX3 13 "GhostPantryLaw$Sim" "at" "[I") (by decide +kernel)) (fun _ h9 => h9) rfl dX3_put_11 ?_
  refine lv_iload_n hx hb dX3_put_14 rfl (lv_at hl 1 rfl) ?_
  refine lv_iload_n hx hb dX3_put_15 rfl (lv_at hl 2 rfl) ?_
  refine g_iast hx hb hK hP hD hS 1 0 rfl rfl (i := j) (x := (nI r)) (by omega) (by decide) dX3_put_16 (fun H_2 locs hP1 hD1 hS1 => ?_)
  clear hP hD hS
  have hP : va_P G vwCl [(sm, .inr (3, [.int (nI rc), .int (nI bo), .ref u1, .ref u2, .ref u3, .ref u4, .ref u5, .ref u6, .int (nI (ck + 1)), .int nA, .int nH, .int nP, .int nM])), (u1, .inl (cI, 30, .inl (upd v1 j (nI r)))), (u2, .inl (cI, 30, .inl v2)), (u3, .inl (cI, 30, .inl v3)), (u5, .inl (cI, 30, .inl v5)), (u6, .inl (cI, 30, .inl v6))] H_2 := hP1
  have hD : va_D A [(sm, .inr (3, [.int (nI rc), .int (nI bo), .ref u1, .ref u2, .ref u3, .ref u4, .ref u5, .ref u6, .int (nI (ck + 1)), .int nA, .int nH, .int nP, .int nM])), (u1, .inl (cI, 30, .inl (upd v1 j (nI r)))), (u2, .inl (cI, 30, .inl v2)), (u3, .inl (cI, 30, .inl v3)), (u5, .inl (cI, 30, .inl v5)), (u6, .inl (cI, 30, .inl v6))] := hD1
  have hS := hS1
  clear hP1 hD1 hS1
  refine lv_aload_n hx hb dX3_put_17 rfl (lv_at hl 0 rfl) ?_
  refine va_get (D := G) (ci := 3) (v := .ref u2) (C := RX3) (T := TX3) (N := 13) hx hb hts iX3_put_X3 hown hK hP 0 rfl rfl 3 (by decide) (hts (.fieldLink RX3 17 "GhostPantryLaw$Sim" "since" "[I") (by decide +kernel)) (fun _ h9 => h9) rfl dX3_put_18 ?_
  refine lv_iload_n hx hb dX3_put_21 rfl (lv_at hl 1 rfl) ?_
  refine lv_aload_n hx hb dX3_put_22 rfl (lv_at hl 0 rfl) ?_
  refine va_get (D := G) (ci := 3) (v := .int (nI (ck + 1))) (C := RX3) (T := TX3) (N := 13) hx hb hts iX3_put_X3 hown hK hP 0 rfl rfl 8 (by decide) (hts (.fieldLink RX3 41 "GhostPantryLaw$Sim" "clock" "I") (by decide +kernel)) (fun _ h9 => h9) rfl dX3_put_23 ?_
  refine g_iast hx hb hK hP hD hS 2 0 rfl rfl (i := j) (x := (nI (ck + 1))) (by omega) (by decide) dX3_put_26 (fun H_3 locs hP1 hD1 hS1 => ?_)
  clear hP hD hS
  have hP : va_P G vwCl [(sm, .inr (3, [.int (nI rc), .int (nI bo), .ref u1, .ref u2, .ref u3, .ref u4, .ref u5, .ref u6, .int (nI (ck + 1)), .int nA, .int nH, .int nP, .int nM])), (u1, .inl (cI, 30, .inl (upd v1 j (nI r)))), (u2, .inl (cI, 30, .inl (upd v2 j (nI (ck + 1))))), (u3, .inl (cI, 30, .inl v3)), (u5, .inl (cI, 30, .inl v5)), (u6, .inl (cI, 30, .inl v6))] H_3 := hP1
  have hD : va_D A [(sm, .inr (3, [.int (nI rc), .int (nI bo), .ref u1, .ref u2, .ref u3, .ref u4, .ref u5, .ref u6, .int (nI (ck + 1)), .int nA, .int nH, .int nP, .int nM])), (u1, .inl (cI, 30, .inl (upd v1 j (nI r)))), (u2, .inl (cI, 30, .inl (upd v2 j (nI (ck + 1))))), (u3, .inl (cI, 30, .inl v3)), (u5, .inl (cI, 30, .inl v5)), (u6, .inl (cI, 30, .inl v6))] := hD1
  have hS := hS1
  clear hP1 hD1 hS1
  have hP9 := hP.sub (ws' := [(sm, .inr (3, [.int (nI rc), .int (nI bo), .ref u1, .ref u2, .ref u3, .ref u4, .ref u5, .ref u6, .int (nI (ck + 1)), .int nA, .int nH, .int nP, .int nM])), (u1, .inl (cI, 30, .inl (upd v1 j (nI r)))), (u2, .inl (cI, 30, .inl (upd v2 j (nI (ck + 1))))), (u3, .inl (cI, 30, .inl v3)), (u5, .inl (cI, 30, .inl v5)), (u6, .inl (cI, 30, .inl v6))]) [0, 1, 2, 3, 4, 5] rfl
  have hD9 := hD.sub (ws' := [(sm, .inr (3, [.int (nI rc), .int (nI bo), .ref u1, .ref u2, .ref u3, .ref u4, .ref u5, .ref u6, .int (nI (ck + 1)), .int nA, .int nH, .int nP, .int nM])), (u1, .inl (cI, 30, .inl (upd v1 j (nI r)))), (u2, .inl (cI, 30, .inl (upd v2 j (nI (ck + 1))))), (u3, .inl (cI, 30, .inl v3)), (u5, .inl (cI, 30, .inl v5)), (u6, .inl (cI, 30, .inl v6))]) [0, 1, 2, 3, 4, 5] (by decide) rfl
  exact W.vret hx hb hr (fun t ht hW => ⟨⟨(), rfl, trivial, g_at hP9 hK hD9 ht hW⟩, hS.F ht⟩) hS.2.2 dX3_put_27

set_option maxRecDepth 20000 in
theorem iX3_makeRoom_X3 : ∀ w ∈ wsX30, w ∈ wsX3_makeRoom := by decide +kernel
set_option maxHeartbeats 4000000 in
set_option maxRecDepth 100000 in
theorem c_X3_makeRoom (l : Launch) (G : va_G) (cI : ClassId) (sm u1 u2 u3 u4 u5 u6 : Nat) (v1 v2 v3 v5 v6 : Nat → Int32) (rc bo ck : Nat) (nA nH nP nM : Int32) (L1 L2 L3 L4 : List Int32) (ff : Bool) (hn : Num rc bo (L1, L2, L3, L4)) (hsq : SQ v1 v2 ck (L1, L2, L3, L4)) (hck : ck < 2 ^ 30) (sz : Nat) : Met l yX3_makeRoom wsX3_makeRoom ({ frames := 1, cells := 0, slots := 0, locals := 26 }) (va_Pc [.ref sm, .int (nI ff.toNat)] (gpre G [(cI, .int)] [(sm, .inr (3, [.int (nI rc), .int (nI bo), .ref u1, .ref u2, .ref u3, .ref u4, .ref u5, .ref u6, .int (nI ck), .int nA, .int nH, .int nP, .int nM])), (u1, .inl (cI, 30, .inl v1)), (u2, .inl (cI, 30, .inl v2)), (u3, .inl (cI, 30, .inl v3)), (u5, .inl (cI, 30, .inl v5)), (u6, .inl (cI, 30, .inl v6))] sz)) (va_Qv (fun (_ : Unit) => True) (fun (_ : Unit) t => ∃ (v1' v2' : Nat → Int32) (ck' : Nat), SQ v1' v2' ck' (sRoom rc bo ff (L1, L2, L3, L4)) ∧ ck ≤ ck' ∧ ck' ≤ ck + 1 ∧ gat G [(cI, .int)] (va_A [(sm, .inr (3, [.int (nI rc), .int (nI bo), .ref u1, .ref u2, .ref u3, .ref u4, .ref u5, .ref u6, .int (nI ck), .int nA, .int nH, .int nP, .int nM])), (u1, .inl (cI, 30, .inl v1)), (u2, .inl (cI, 30, .inl v2)), (u3, .inl (cI, 30, .inl v3)), (u5, .inl (cI, 30, .inl v5)), (u6, .inl (cI, 30, .inl v6))] sz) [(sm, .inr (3, [.int (nI rc), .int (nI bo), .ref u1, .ref u2, .ref u3, .ref u4, .ref u5, .ref u6, .int (nI ck'), .int nA, .int nH, .int nP, .int nM])), (u1, .inl (cI, 30, .inl v1')), (u2, .inl (cI, 30, .inl v2')), (u3, .inl (cI, 30, .inl v3)), (u5, .inl (cI, 30, .inl v5)), (u6, .inl (cI, 30, .inl v6))] t) (va_A [(sm, .inr (3, [.int (nI rc), .int (nI bo), .ref u1, .ref u2, .ref u3, .ref u4, .ref u5, .ref u6, .int (nI ck), .int nA, .int nH, .int nP, .int nM])), (u1, .inl (cI, 30, .inl v1)), (u2, .inl (cI, 30, .inl v2)), (u3, .inl (cI, 30, .inl v3)), (u5, .inl (cI, 30, .inl v5)), (u6, .inl (cI, 30, .inl v6))] sz)) 0 0 (va_A [(sm, .inr (3, [.int (nI rc), .int (nI bo), .ref u1, .ref u2, .ref u3, .ref u4, .ref u5, .ref u6, .int (nI ck), .int nA, .int nH, .int nP, .int nM])), (u1, .inl (cI, 30, .inl v1)), (u2, .inl (cI, 30, .inl v2)), (u3, .inl (cI, 30, .inl v3)), (u5, .inl (cI, 30, .inl v5)), (u6, .inl (cI, 30, .inl v6))] sz) := by
  refine Met.ofW (cc := cX3_makeRoom) (maxL := 4) (ret := none) (by decide) rfl ?_
  intro p e s m args below meth c s₁ B hml hv
  obtain ⟨rfl, hsz, hP, hK, hD0⟩ := hv
  have hx := B.exec
  have hb := B.bytes
  have hr := B.returns
  have hts := atoms_spec (ws := wsX3_makeRoom) B.pre
  have hown : s.vm.findClass RX3 = some m.cls := findClass_of_methodNamed B.named
  have hlocks := B.notSynchronized
  subst hsz
  have hD := hD0.self (sz := s.heap.size)
  clear hD0
  generalize hAe : va_A [(sm, .inr (3, [.int (nI rc), .int (nI bo), .ref u1, .ref u2, .ref u3, .ref u4, .ref u5, .ref u6, .int (nI ck), .int nA, .int nH, .int nP, .int nM])), (u1, .inl (cI, 30, .inl v1)), (u2, .inl (cI, 30, .inl v2)), (u3, .inl (cI, 30, .inl v3)), (u5, .inl (cI, 30, .inl v5)), (u6, .inl (cI, 30, .inl v6))] s.heap.size = A at hD ⊢
  have hA : ∀ q : Nat, s.heap.size ≤ q → A q := fun q h => by rw [← hAe]; exact Or.inr h
  have hS : va_S A s.heap s.heap [] := va_S.rf
  have hP : va_P G vwCl [(sm, .inr (3, [.int (nI rc), .int (nI bo), .ref u1, .ref u2, .ref u3, .ref u4, .ref u5, .ref u6, .int (nI ck), .int nA, .int nH, .int nP, .int nM])), (u1, .inl (cI, 30, .inl v1)), (u2, .inl (cI, 30, .inl v2)), (u3, .inl (cI, 30, .inl v3)), (u5, .inl (cI, 30, .inl v5)), (u6, .inl (cI, 30, .inl v6))] s.heap := hP
  have hl := lv_entry ([.ref sm, .int (nI ff.toNat)]) (n := 4) (Nat.le_of_ble_eq_true rfl)
  rw [lg_entry_eq]
  generalize (lg_sl ([.ref sm, .int (nI ff.toNat)]) ++ List.replicate (4 - (lg_sl ([.ref sm, .int (nI ff.toNat)])).length) Slot.unset).toArray = ls at hl ⊢
  have hl : lv_has ls 4 [(0, .ref sm), (1, .int (nI ff.toNat))] := hl
  obtain ⟨hn1, hn2, hn3, hn4, hn5, hn6⟩ : 1 ≤ rc ∧ rc ≤ 12 ∧ bo ≤ rc ∧ L1.length + L2.length ≤ rc ∧ L1.length + L3.length ≤ rc ∧ L1.length + L2.length + L3.length + L4.length ≤ 2 * rc := id hn
  have hff : ff.toNat < 2 := tn_lt ff
  refine lv_aload_n hx hb dX3_makeRoom_0 rfl (lv_at hl 0 rfl) ?_
  refine lv_iconst (v := (nI 1)) hx hb dX3_makeRoom_1 (by decide +kernel) ?_
  have hPc := hP.sub (ws' := [(sm, .inr (3, [.int (nI rc), .int (nI bo), .ref u1, .ref u2, .ref u3, .ref u4, .ref u5, .ref u6, .int (nI ck), .int nA, .int nH, .int nP, .int nM])), (u1, .inl (cI, 30, .inl v1)), (u2, .inl (cI, 30, .inl v2)), (u3, .inl (cI, 30, .inl v3)), (u5, .inl (cI, 30, .inl v5)), (u6, .inl (cI, 30, .inl v6))]) [0, 1, 2, 3, 4, 5] rfl
  have hDc := hD.sub (ws' := [(sm, .inr (3, [.int (nI rc), .int (nI bo), .ref u1, .ref u2, .ref u3, .ref u4, .ref u5, .ref u6, .int (nI ck), .int nA, .int nH, .int nP, .int nM])), (u1, .inl (cI, 30, .inl v1)), (u2, .inl (cI, 30, .inl v2)), (u3, .inl (cI, 30, .inl v3)), (u5, .inl (cI, 30, .inl v5)), (u6, .inl (cI, 30, .inl v6))]) [0, 1, 2, 3, 4, 5] (by decide) rfl
  have hKc := hK.sub (tys' := [(cI, .int)]) [0] rfl
  have hFc := va_free (wc := [(sm, .inr (3, [.int (nI rc), .int (nI bo), .ref u1, .ref u2, .ref u3, .ref u4, .ref u5, .ref u6, .int (nI ck), .int nA, .int nH, .int nP, .int nM])), (u1, .inl (cI, 30, .inl v1)), (u2, .inl (cI, 30, .inl v2)), (u3, .inl (cI, 30, .inl v3)), (u5, .inl (cI, 30, .inl v5)), (u6, .inl (cI, 30, .inl v6))]) hD hS hA [0, 1, 2, 3, 4, 5] rfl
  refine va_calli (va_runV (As := [.int (nI 1)]) (rest := []) ⟨hx, hb, hml, hown, hts⟩ (c_X3_many l G cI sm u1 u2 u3 u4 u5 u6 v1 v2 v3 v5 v6 rc bo ck nA nH nP nM 1 (by omega) s.heap.size) (cwV 1 hts gX3_makeRoom_X3_many rfl rfl rfl (by decide +kernel) ⟨Nat.le_of_ble_eq_true rfl, Nat.le_of_ble_eq_true rfl⟩) (g_preV (As := [.int (nI 1)]) hPc hKc hDc 0 rfl rfl) rfl rfl hl.1 rfl (lv_room (Nat.le_of_ble_eq_true rfl)) dX3_makeRoom_2 ⟨(Nat.le_of_ble_eq_true rfl), (Nat.le_of_ble_eq_true rfl)⟩) hS (fun q _ h => hFc q h) hFc (fun r_2 u_3 t H_1 locs ht hvm hw hB hz1 hk1 hS1 => ?_)
  have hw := hw.symm
  subst hw
  obtain ⟨hP1, hD1⟩ := g_join (wc := [(sm, .inr (3, [.int (nI rc), .int (nI bo), .ref u1, .ref u2, .ref u3, .ref u4, .ref u5, .ref u6, .int (nI ck), .int nA, .int nH, .int nP, .int nM])), (u1, .inl (cI, 30, .inl v1)), (u2, .inl (cI, 30, .inl v2)), (u3, .inl (cI, 30, .inl v3)), (u5, .inl (cI, 30, .inl v5)), (u6, .inl (cI, 30, .inl v6))]) (wr := []) (w1 := [(sm, .inr (3, [.int (nI rc), .int (nI bo), .ref u1, .ref u2, .ref u3, .ref u4, .ref u5, .ref u6, .int (nI ck), .int nA, .int nH, .int nP, .int nM])), (u1, .inl (cI, 30, .inl v1)), (u2, .inl (cI, 30, .inl v2)), (u3, .inl (cI, 30, .inl v3)), (u5, .inl (cI, 30, .inl v5)), (u6, .inl (cI, 30, .inl v6))]) hP hD [0, 1, 2, 3, 4, 5] [] rfl rfl (by decide) (by decide) ht hk1 hFc hB
  clear hB hk1 hz1 hvm ht hPc hDc hKc hFc
  clear hP hD hS
  have hP : va_P G vwCl [(sm, .inr (3, [.int (nI rc), .int (nI bo), .ref u1, .ref u2, .ref u3, .ref u4, .ref u5, .ref u6, .int (nI ck), .int nA, .int nH, .int nP, .int nM])), (u1, .inl (cI, 30, .inl v1)), (u2, .inl (cI, 30, .inl v2)), (u3, .inl (cI, 30, .inl v3)), (u5, .inl (cI, 30, .inl v5)), (u6, .inl (cI, 30, .inl v6))] H_1 := hP1
  have hD : va_D A [(sm, .inr (3, [.int (nI rc), .int (nI bo), .ref u1, .ref u2, .ref u3, .ref u4, .ref u5, .ref u6, .int (nI ck), .int nA, .int nH, .int nP, .int nM])), (u1, .inl (cI, 30, .inl v1)), (u2, .inl (cI, 30, .inl v2)), (u3, .inl (cI, 30, .inl v3)), (u5, .inl (cI, 30, .inl v5)), (u6, .inl (cI, 30, .inl v6))] := hD1
  have hS := hS1
  clear hP1 hD1 hS1
  refine g_top (y := nI L1.length) (congrArg nI (many_eq hsq (k := 1) (by decide) (by decide))) ?_
  refine lv_istore_n (lv' := [(2, .int (nI L1.length)), (0, .ref sm), (1, .int (nI ff.toNat))]) hx hb dX3_makeRoom_5 rfl hl (by decide) rfl (fun ls hl => ?_)
  refine lv_aload_n hx hb dX3_makeRoom_6 rfl (lv_at hl 1 rfl) ?_
  refine lv_iconst (v := (nI 2)) hx hb dX3_makeRoom_7 (by decide +kernel) ?_
  have hPc := hP.sub (ws' := [(sm, .inr (3, [.int (nI rc), .int (nI bo), .ref u1, .ref u2, .ref u3, .ref u4, .ref u5, .ref u6, .int (nI ck), .int nA, .int nH, .int nP, .int nM])), (u1, .inl (cI, 30, .inl v1)), (u2, .inl (cI, 30, .inl v2)), (u3, .inl (cI, 30, .inl v3)), (u5, .inl (cI, 30, .inl v5)), (u6, .inl (cI, 30, .inl v6))]) [0, 1, 2, 3, 4, 5] rfl
  have hDc := hD.sub (ws' := [(sm, .inr (3, [.int (nI rc), .int (nI bo), .ref u1, .ref u2, .ref u3, .ref u4, .ref u5, .ref u6, .int (nI ck), .int nA, .int nH, .int nP, .int nM])), (u1, .inl (cI, 30, .inl v1)), (u2, .inl (cI, 30, .inl v2)), (u3, .inl (cI, 30, .inl v3)), (u5, .inl (cI, 30, .inl v5)), (u6, .inl (cI, 30, .inl v6))]) [0, 1, 2, 3, 4, 5] (by decide) rfl
  have hKc := hK.sub (tys' := [(cI, .int)]) [0] rfl
  have hFc := va_free (wc := [(sm, .inr (3, [.int (nI rc), .int (nI bo), .ref u1, .ref u2, .ref u3, .ref u4, .ref u5, .ref u6, .int (nI ck), .int nA, .int nH, .int nP, .int nM])), (u1, .inl (cI, 30, .inl v1)), (u2, .inl (cI, 30, .inl v2)), (u3, .inl (cI, 30, .inl v3)), (u5, .inl (cI, 30, .inl v5)), (u6, .inl (cI, 30, .inl v6))]) hD hS hA [0, 1, 2, 3, 4, 5] rfl
  refine va_calli (va_runV (As := [.int (nI 2)]) (rest := []) ⟨hx, hb, hml, hown, hts⟩ (c_X3_many l G cI sm u1 u2 u3 u4 u5 u6 v1 v2 v3 v5 v6 rc bo ck nA nH nP nM 2 (by omega) H_1.size) (cwV 1 hts gX3_makeRoom_X3_many rfl rfl rfl (by decide +kernel) ⟨Nat.le_of_ble_eq_true rfl, Nat.le_of_ble_eq_true rfl⟩) (g_preV (As := [.int (nI 2)]) hPc hKc hDc 0 rfl rfl) rfl rfl hl.1 rfl (lv_room (Nat.le_of_ble_eq_true rfl)) dX3_makeRoom_8 ⟨(Nat.le_of_ble_eq_true rfl), (Nat.le_of_ble_eq_true rfl)⟩) hS (fun q _ h => hFc q h) hFc (fun r_5 u_6 t H_4 locs ht hvm hw hB hz1 hk1 hS1 => ?_)
  have hw := hw.symm
  subst hw
  obtain ⟨hP1, hD1⟩ := g_join (wc := [(sm, .inr (3, [.int (nI rc), .int (nI bo), .ref u1, .ref u2, .ref u3, .ref u4, .ref u5, .ref u6, .int (nI ck), .int nA, .int nH, .int nP, .int nM])), (u1, .inl (cI, 30, .inl v1)), (u2, .inl (cI, 30, .inl v2)), (u3, .inl (cI, 30, .inl v3)), (u5, .inl (cI, 30, .inl v5)), (u6, .inl (cI, 30, .inl v6))]) (wr := []) (w1 := [(sm, .inr (3, [.int (nI rc), .int (nI bo), .ref u1, .ref u2, .ref u3, .ref u4, .ref u5, .ref u6, .int (nI ck), .int nA, .int nH, .int nP, .int nM])), (u1, .inl (cI, 30, .inl v1)), (u2, .inl (cI, 30, .inl v2)), (u3, .inl (cI, 30, .inl v3)), (u5, .inl (cI, 30, .inl v5)), (u6, .inl (cI, 30, .inl v6))]) hP hD [0, 1, 2, 3, 4, 5] [] rfl rfl (by decide) (by decide) ht hk1 hFc hB
  clear hB hk1 hz1 hvm ht hPc hDc hKc hFc
  clear hP hD hS
  have hP : va_P G vwCl [(sm, .inr (3, [.int (nI rc), .int (nI bo), .ref u1, .ref u2, .ref u3, .ref u4, .ref u5, .ref u6, .int (nI ck), .int nA, .int nH, .int nP, .int nM])), (u1, .inl (cI, 30, .inl v1)), (u2, .inl (cI, 30, .inl v2)), (u3, .inl (cI, 30, .inl v3)), (u5, .inl (cI, 30, .inl v5)), (u6, .inl (cI, 30, .inl v6))] H_4 := hP1
  have hD : va_D A [(sm, .inr (3, [.int (nI rc), .int (nI bo), .ref u1, .ref u2, .ref u3, .ref u4, .ref u5, .ref u6, .int (nI ck), .int nA, .int nH, .int nP, .int nM])), (u1, .inl (cI, 30, .inl v1)), (u2, .inl (cI, 30, .inl v2)), (u3, .inl (cI, 30, .inl v3)), (u5, .inl (cI, 30, .inl v5)), (u6, .inl (cI, 30, .inl v6))] := hD1
  have hS := hS1
  clear hP1 hD1 hS1
  refine g_top (y := nI L2.length) (congrArg nI (many_eq hsq (k := 2) (by decide) (by decide))) ?_
  refine lv_istore_n (lv' := [(3, .int (nI L2.length)), (2, .int (nI L1.length)), (0, .ref sm), (1, .int (nI ff.toNat))]) hx hb dX3_makeRoom_11 rfl hl (by decide) rfl (fun ls hl => ?_)
  refine lv_iload_n hx hb dX3_makeRoom_12 rfl (lv_at hl 1 rfl) ?_
  refine lv_iload_n hx hb dX3_makeRoom_13 rfl (lv_at hl 0 rfl) ?_
  refine g_iadd hx hb dX3_makeRoom_14 ?_
  refine lv_aload_n hx hb dX3_makeRoom_15 rfl (lv_at hl 2 rfl) ?_
  refine va_get (D := G) (ci := 3) (v := .int (nI rc)) (C := RX3) (T := TX3) (N := 13) hx hb hts iX3_makeRoom_X3 hown hK hP 0 rfl rfl 0 (by decide) (hts (.fieldLink RX3 7 "GhostPantryLaw$Sim" "room" "I") (by decide +kernel)) (fun _ h9 => h9) rfl dX3_makeRoom_16 ?_
  refine g_icmp_eq (tgt := 23) hx hb dX3_makeRoom_19 (by decide) (by omega) (by omega) (fun c_7 => ?_) (fun c_7 => ?_)
  · refine lv_iload_n hx hb dX3_makeRoom_23 rfl (lv_at hl 1 rfl) ?_
    refine g_if_le (tgt := 60) hx hb dX3_makeRoom_24 (by decide) (by omega) (fun c_8 => ?_) (fun c_8 => ?_)
    · refine lv_iload_n hx hb dX3_makeRoom_60 rfl (lv_at hl 0 rfl) ?_
      refine g_if_le (tgt := 77) hx hb dX3_makeRoom_61 (by decide) (by omega) (fun c_9 => ?_) (fun c_9 => ?_)
      · refine lv_iload_n hx hb dX3_makeRoom_77 rfl (lv_at hl 1 rfl) ?_
        refine g_if_le (tgt := 91) hx hb dX3_makeRoom_78 (by decide) (by omega) (fun c_10 => False.elim (by omega)) (fun c_10 => ?_)
        refine lv_aload_n hx hb dX3_makeRoom_81 rfl (lv_at hl 2 rfl) ?_
        refine lv_aload_n hx hb dX3_makeRoom_82 rfl (lv_at hl 2 rfl) ?_
        refine lv_iconst (v := (nI 1)) hx hb dX3_makeRoom_83 (by decide +kernel) ?_
        have hPc := hP.sub (ws' := [(sm, .inr (3, [.int (nI rc), .int (nI bo), .ref u1, .ref u2, .ref u3, .ref u4, .ref u5, .ref u6, .int (nI ck), .int nA, .int nH, .int nP, .int nM])), (u1, .inl (cI, 30, .inl v1)), (u2, .inl (cI, 30, .inl v2)), (u3, .inl (cI, 30, .inl v3)), (u5, .inl (cI, 30, .inl v5)), (u6, .inl (cI, 30, .inl v6))]) [0, 1, 2, 3, 4, 5] rfl
        have hDc := hD.sub (ws' := [(sm, .inr (3, [.int (nI rc), .int (nI bo), .ref u1, .ref u2, .ref u3, .ref u4, .ref u5, .ref u6, .int (nI ck), .int nA, .int nH, .int nP, .int nM])), (u1, .inl (cI, 30, .inl v1)), (u2, .inl (cI, 30, .inl v2)), (u3, .inl (cI, 30, .inl v3)), (u5, .inl (cI, 30, .inl v5)), (u6, .inl (cI, 30, .inl v6))]) [0, 1, 2, 3, 4, 5] (by decide) rfl
        have hKc := hK.sub (tys' := [(cI, .int)]) [0] rfl
        have hFc := va_free (wc := [(sm, .inr (3, [.int (nI rc), .int (nI bo), .ref u1, .ref u2, .ref u3, .ref u4, .ref u5, .ref u6, .int (nI ck), .int nA, .int nH, .int nP, .int nM])), (u1, .inl (cI, 30, .inl v1)), (u2, .inl (cI, 30, .inl v2)), (u3, .inl (cI, 30, .inl v3)), (u5, .inl (cI, 30, .inl v5)), (u6, .inl (cI, 30, .inl v6))]) hD hS hA [0, 1, 2, 3, 4, 5] rfl
        refine va_calli (va_runV (As := [.int (nI 1)]) (rest := [.ref sm]) ⟨hx, hb, hml, hown, hts⟩ (c_X3_last l G cI sm u1 u2 u3 u4 u5 u6 v1 v2 v3 v5 v6 rc bo ck nA nH nP nM 1 H_4.size) (cwV 1 hts gX3_makeRoom_X3_last rfl rfl rfl (by decide +kernel) ⟨Nat.le_of_ble_eq_true rfl, Nat.le_of_ble_eq_true rfl⟩) (g_preV (As := [.int (nI 1)]) hPc hKc hDc 0 rfl rfl) rfl rfl hl.1 rfl (lv_room (Nat.le_of_ble_eq_true rfl)) dX3_makeRoom_84 ⟨(Nat.le_of_ble_eq_true rfl), (Nat.le_of_ble_eq_true rfl)⟩) hS (fun q _ h => hFc q h) hFc (fun r_12 u_13 t H_11 locs ht hvm hw hB hz1 hk1 hS1 => ?_)
        have hw := hw.symm
        subst hw
        obtain ⟨hP1, hD1⟩ := g_join (wc := [(sm, .inr (3, [.int (nI rc), .int (nI bo), .ref u1, .ref u2, .ref u3, .ref u4, .ref u5, .ref u6, .int (nI ck), .int nA, .int nH, .int nP, .int nM])), (u1, .inl (cI, 30, .inl v1)), (u2, .inl (cI, 30, .inl v2)), (u3, .inl (cI, 30, .inl v3)), (u5, .inl (cI, 30, .inl v5)), (u6, .inl (cI, 30, .inl v6))]) (wr := []) (w1 := [(sm, .inr (3, [.int (nI rc), .int (nI bo), .ref u1, .ref u2, .ref u3, .ref u4, .ref u5, .ref u6, .int (nI ck), .int nA, .int nH, .int nP, .int nM])), (u1, .inl (cI, 30, .inl v1)), (u2, .inl (cI, 30, .inl v2)), (u3, .inl (cI, 30, .inl v3)), (u5, .inl (cI, 30, .inl v5)), (u6, .inl (cI, 30, .inl v6))]) hP hD [0, 1, 2, 3, 4, 5] [] rfl rfl (by decide) (by decide) ht hk1 hFc hB
        clear hB hk1 hz1 hvm ht hPc hDc hKc hFc
        clear hP hD hS
        have hP : va_P G vwCl [(sm, .inr (3, [.int (nI rc), .int (nI bo), .ref u1, .ref u2, .ref u3, .ref u4, .ref u5, .ref u6, .int (nI ck), .int nA, .int nH, .int nP, .int nM])), (u1, .inl (cI, 30, .inl v1)), (u2, .inl (cI, 30, .inl v2)), (u3, .inl (cI, 30, .inl v3)), (u5, .inl (cI, 30, .inl v5)), (u6, .inl (cI, 30, .inl v6))] H_11 := hP1
        have hD : va_D A [(sm, .inr (3, [.int (nI rc), .int (nI bo), .ref u1, .ref u2, .ref u3, .ref u4, .ref u5, .ref u6, .int (nI ck), .int nA, .int nH, .int nP, .int nM])), (u1, .inl (cI, 30, .inl v1)), (u2, .inl (cI, 30, .inl v2)), (u3, .inl (cI, 30, .inl v3)), (u5, .inl (cI, 30, .inl v5)), (u6, .inl (cI, 30, .inl v6))] := hD1
        have hS := hS1
        clear hP1 hD1 hS1
        have h0b_14 : 0 < L1.length := by omega
        obtain ⟨b_14, hkb_14, eb_14⟩ : jarOk (lst L1) := (hsq).jrs.1 _ (lst_mem h0b_14)
        refine g_top (y := nI b_14) ((last_eq hsq (by omega) (k := 1) (by decide) (by decide) h0b_14).trans eb_14) ?_
        refine lv_iconst (v := (nI 3)) hx hb dX3_makeRoom_87 (by decide +kernel) ?_
        have hPc := hP.sub (ws' := [(sm, .inr (3, [.int (nI rc), .int (nI bo), .ref u1, .ref u2, .ref u3, .ref u4, .ref u5, .ref u6, .int (nI ck), .int nA, .int nH, .int nP, .int nM])), (u1, .inl (cI, 30, .inl v1)), (u2, .inl (cI, 30, .inl v2)), (u3, .inl (cI, 30, .inl v3)), (u5, .inl (cI, 30, .inl v5)), (u6, .inl (cI, 30, .inl v6))]) [0, 1, 2, 3, 4, 5] rfl
        have hDc := hD.sub (ws' := [(sm, .inr (3, [.int (nI rc), .int (nI bo), .ref u1, .ref u2, .ref u3, .ref u4, .ref u5, .ref u6, .int (nI ck), .int nA, .int nH, .int nP, .int nM])), (u1, .inl (cI, 30, .inl v1)), (u2, .inl (cI, 30, .inl v2)), (u3, .inl (cI, 30, .inl v3)), (u5, .inl (cI, 30, .inl v5)), (u6, .inl (cI, 30, .inl v6))]) [0, 1, 2, 3, 4, 5] (by decide) rfl
        have hKc := hK.sub (tys' := [(cI, .int)]) [0] rfl
        have hFc := va_free (wc := [(sm, .inr (3, [.int (nI rc), .int (nI bo), .ref u1, .ref u2, .ref u3, .ref u4, .ref u5, .ref u6, .int (nI ck), .int nA, .int nH, .int nP, .int nM])), (u1, .inl (cI, 30, .inl v1)), (u2, .inl (cI, 30, .inl v2)), (u3, .inl (cI, 30, .inl v3)), (u5, .inl (cI, 30, .inl v5)), (u6, .inl (cI, 30, .inl v6))]) hD hS hA [0, 1, 2, 3, 4, 5] rfl
        refine va_callv (va_runV (As := [.int (nI b_14), .int (nI 3)]) (rest := []) ⟨hx, hb, hml, hown, hts⟩ (c_X3_put l G cI sm u1 u2 u3 u4 u5 u6 v1 v2 v3 v5 v6 rc bo ck nA nH nP nM b_14 3 (by omega) H_11.size) (cwV 2 hts gX3_makeRoom_X3_put rfl rfl rfl (by decide +kernel) ⟨Nat.le_of_ble_eq_true rfl, Nat.le_of_ble_eq_true rfl⟩) (g_preV (As := [.int (nI b_14), .int (nI 3)]) hPc hKc hDc 0 rfl rfl) rfl rfl hl.1 rfl (lv_room (Nat.le_of_ble_eq_true rfl)) dX3_makeRoom_88 ⟨(Nat.le_of_ble_eq_true rfl), (Nat.le_of_ble_eq_true rfl)⟩) hS (fun q _ h => hFc q h) hFc (fun u_17 t H_15 locs ht hvm hw hB hz1 hk1 hS1 => ?_)
        obtain ⟨hP1, hD1⟩ := g_join (wc := [(sm, .inr (3, [.int (nI rc), .int (nI bo), .ref u1, .ref u2, .ref u3, .ref u4, .ref u5, .ref u6, .int (nI ck), .int nA, .int nH, .int nP, .int nM])), (u1, .inl (cI, 30, .inl v1)), (u2, .inl (cI, 30, .inl v2)), (u3, .inl (cI, 30, .inl v3)), (u5, .inl (cI, 30, .inl v5)), (u6, .inl (cI, 30, .inl v6))]) (wr := []) (w1 := [(sm, .inr (3, [.int (nI rc), .int (nI bo), .ref u1, .ref u2, .ref u3, .ref u4, .ref u5, .ref u6, .int (nI (ck + 1)), .int nA, .int nH, .int nP, .int nM])), (u1, .inl (cI, 30, .inl (upd v1 b_14 (nI 3)))), (u2, .inl (cI, 30, .inl (upd v2 b_14 (nI (ck + 1))))), (u3, .inl (cI, 30, .inl v3)), (u5, .inl (cI, 30, .inl v5)), (u6, .inl (cI, 30, .inl v6))]) hP hD [0, 1, 2, 3, 4, 5] [] rfl rfl (by decide) (by decide) ht hk1 hFc hB
        clear hB hk1 hz1 hvm ht hPc hDc hKc hFc
        clear hP hD hS
        have hP : va_P G vwCl [(sm, .inr (3, [.int (nI rc), .int (nI bo), .ref u1, .ref u2, .ref u3, .ref u4, .ref u5, .ref u6, .int (nI (ck + 1)), .int nA, .int nH, .int nP, .int nM])), (u1, .inl (cI, 30, .inl (upd v1 b_14 (nI 3)))), (u2, .inl (cI, 30, .inl (upd v2 b_14 (nI (ck + 1))))), (u3, .inl (cI, 30, .inl v3)), (u5, .inl (cI, 30, .inl v5)), (u6, .inl (cI, 30, .inl v6))] H_15 := hP1
        have hD : va_D A [(sm, .inr (3, [.int (nI rc), .int (nI bo), .ref u1, .ref u2, .ref u3, .ref u4, .ref u5, .ref u6, .int (nI (ck + 1)), .int nA, .int nH, .int nP, .int nM])), (u1, .inl (cI, 30, .inl (upd v1 b_14 (nI 3)))), (u2, .inl (cI, 30, .inl (upd v2 b_14 (nI (ck + 1))))), (u3, .inl (cI, 30, .inl v3)), (u5, .inl (cI, 30, .inl v5)), (u6, .inl (cI, 30, .inl v6))] := hD1
        have hS := hS1
        clear hP1 hD1 hS1
        have e9 : insq 3 (nI b_14) (delq (nI b_14) (L1, L2, L3, L4)) = sRoom rc bo ff (L1, L2, L3, L4) := by rw [← eb_14]; exact roB hsq.nd (by show ¬ L1.length + L2.length < rc; omega) (show 0 < L1.length ∧ ((bo < L1.length ∨ (L1.length = bo ∧ ff = true)) ∨ L2.length = 0) from ⟨by omega, Or.inr (by omega)⟩)
        have hs9 := SQ.put hsq (j := b_14) (k := 3) (by omega) (by decide) (by decide)
        rw [e9] at hs9
        have hP9 := hP.sub (ws' := [(sm, .inr (3, [.int (nI rc), .int (nI bo), .ref u1, .ref u2, .ref u3, .ref u4, .ref u5, .ref u6, .int (nI (ck + 1)), .int nA, .int nH, .int nP, .int nM])), (u1, .inl (cI, 30, .inl (upd v1 b_14 (nI 3)))), (u2, .inl (cI, 30, .inl (upd v2 b_14 (nI (ck + 1))))), (u3, .inl (cI, 30, .inl v3)), (u5, .inl (cI, 30, .inl v5)), (u6, .inl (cI, 30, .inl v6))]) [0, 1, 2, 3, 4, 5] rfl
        have hD9 := hD.sub (ws' := [(sm, .inr (3, [.int (nI rc), .int (nI bo), .ref u1, .ref u2, .ref u3, .ref u4, .ref u5, .ref u6, .int (nI (ck + 1)), .int nA, .int nH, .int nP, .int nM])), (u1, .inl (cI, 30, .inl (upd v1 b_14 (nI 3)))), (u2, .inl (cI, 30, .inl (upd v2 b_14 (nI (ck + 1))))), (u3, .inl (cI, 30, .inl v3)), (u5, .inl (cI, 30, .inl v5)), (u6, .inl (cI, 30, .inl v6))]) [0, 1, 2, 3, 4, 5] (by decide) rfl
        exact W.vret hx hb hr (fun t ht hW => ⟨⟨(), rfl, trivial, _, _, _, hs9, (Nat.le_succ _), (Nat.le_refl _), g_at hP9 hK hD9 ht hW⟩, hS.F ht⟩) hS.2.2 dX3_makeRoom_91
      · have hov : ¬ (0 < L1.length ∧ ((bo < L1.length ∨ (L1.length = bo ∧ ff = true)) ∨ L2.length = 0)) := fun z => by
            rcases z with ⟨z1, (z2 | ⟨z2, z3⟩) | z2⟩ <;> omega
        refine lv_aload_n hx hb dX3_makeRoom_64 rfl (lv_at hl 2 rfl) ?_
        refine lv_aload_n hx hb dX3_makeRoom_65 rfl (lv_at hl 2 rfl) ?_
        refine lv_iconst (v := (nI 2)) hx hb dX3_makeRoom_66 (by decide +kernel) ?_
        have hPc := hP.sub (ws' := [(sm, .inr (3, [.int (nI rc), .int (nI bo), .ref u1, .ref u2, .ref u3, .ref u4, .ref u5, .ref u6, .int (nI ck), .int nA, .int nH, .int nP, .int nM])), (u1, .inl (cI, 30, .inl v1)), (u2, .inl (cI, 30, .inl v2)), (u3, .inl (cI, 30, .inl v3)), (u5, .inl (cI, 30, .inl v5)), (u6, .inl (cI, 30, .inl v6))]) [0, 1, 2, 3, 4, 5] rfl
        have hDc := hD.sub (ws' := [(sm, .inr (3, [.int (nI rc), .int (nI bo), .ref u1, .ref u2, .ref u3, .ref u4, .ref u5, .ref u6, .int (nI ck), .int nA, .int nH, .int nP, .int nM])), (u1, .inl (cI, 30, .inl v1)), (u2, .inl (cI, 30, .inl v2)), (u3, .inl (cI, 30, .inl v3)), (u5, .inl (cI, 30, .inl v5)), (u6, .inl (cI, 30, .inl v6))]) [0, 1, 2, 3, 4, 5] (by decide) rfl
        have hKc := hK.sub (tys' := [(cI, .int)]) [0] rfl
        have hFc := va_free (wc := [(sm, .inr (3, [.int (nI rc), .int (nI bo), .ref u1, .ref u2, .ref u3, .ref u4, .ref u5, .ref u6, .int (nI ck), .int nA, .int nH, .int nP, .int nM])), (u1, .inl (cI, 30, .inl v1)), (u2, .inl (cI, 30, .inl v2)), (u3, .inl (cI, 30, .inl v3)), (u5, .inl (cI, 30, .inl v5)), (u6, .inl (cI, 30, .inl v6))]) hD hS hA [0, 1, 2, 3, 4, 5] rfl
        refine va_calli (va_runV (As := [.int (nI 2)]) (rest := [.ref sm]) ⟨hx, hb, hml, hown, hts⟩ (c_X3_last l G cI sm u1 u2 u3 u4 u5 u6 v1 v2 v3 v5 v6 rc bo ck nA nH nP nM 2 H_4.size) (cwV 1 hts gX3_makeRoom_X3_last rfl rfl rfl (by decide +kernel) ⟨Nat.le_of_ble_eq_true rfl, Nat.le_of_ble_eq_true rfl⟩) (g_preV (As := [.int (nI 2)]) hPc hKc hDc 0 rfl rfl) rfl rfl hl.1 rfl (lv_room (Nat.le_of_ble_eq_true rfl)) dX3_makeRoom_67 ⟨(Nat.le_of_ble_eq_true rfl), (Nat.le_of_ble_eq_true rfl)⟩) hS (fun q _ h => hFc q h) hFc (fun r_19 u_20 t H_18 locs ht hvm hw hB hz1 hk1 hS1 => ?_)
        have hw := hw.symm
        subst hw
        obtain ⟨hP1, hD1⟩ := g_join (wc := [(sm, .inr (3, [.int (nI rc), .int (nI bo), .ref u1, .ref u2, .ref u3, .ref u4, .ref u5, .ref u6, .int (nI ck), .int nA, .int nH, .int nP, .int nM])), (u1, .inl (cI, 30, .inl v1)), (u2, .inl (cI, 30, .inl v2)), (u3, .inl (cI, 30, .inl v3)), (u5, .inl (cI, 30, .inl v5)), (u6, .inl (cI, 30, .inl v6))]) (wr := []) (w1 := [(sm, .inr (3, [.int (nI rc), .int (nI bo), .ref u1, .ref u2, .ref u3, .ref u4, .ref u5, .ref u6, .int (nI ck), .int nA, .int nH, .int nP, .int nM])), (u1, .inl (cI, 30, .inl v1)), (u2, .inl (cI, 30, .inl v2)), (u3, .inl (cI, 30, .inl v3)), (u5, .inl (cI, 30, .inl v5)), (u6, .inl (cI, 30, .inl v6))]) hP hD [0, 1, 2, 3, 4, 5] [] rfl rfl (by decide) (by decide) ht hk1 hFc hB
        clear hB hk1 hz1 hvm ht hPc hDc hKc hFc
        clear hP hD hS
        have hP : va_P G vwCl [(sm, .inr (3, [.int (nI rc), .int (nI bo), .ref u1, .ref u2, .ref u3, .ref u4, .ref u5, .ref u6, .int (nI ck), .int nA, .int nH, .int nP, .int nM])), (u1, .inl (cI, 30, .inl v1)), (u2, .inl (cI, 30, .inl v2)), (u3, .inl (cI, 30, .inl v3)), (u5, .inl (cI, 30, .inl v5)), (u6, .inl (cI, 30, .inl v6))] H_18 := hP1
        have hD : va_D A [(sm, .inr (3, [.int (nI rc), .int (nI bo), .ref u1, .ref u2, .ref u3, .ref u4, .ref u5, .ref u6, .int (nI ck), .int nA, .int nH, .int nP, .int nM])), (u1, .inl (cI, 30, .inl v1)), (u2, .inl (cI, 30, .inl v2)), (u3, .inl (cI, 30, .inl v3)), (u5, .inl (cI, 30, .inl v5)), (u6, .inl (cI, 30, .inl v6))] := hD1
        have hS := hS1
        clear hP1 hD1 hS1
        have h0b_21 : 0 < L2.length := by omega
        obtain ⟨b_21, hkb_21, eb_21⟩ : jarOk (lst L2) := (hsq).jrs.2.1 _ (lst_mem h0b_21)
        refine g_top (y := nI b_21) ((last_eq hsq (by omega) (k := 2) (by decide) (by decide) h0b_21).trans eb_21) ?_
        refine lv_iconst (v := (nI 4)) hx hb dX3_makeRoom_70 (by decide +kernel) ?_
        have hPc := hP.sub (ws' := [(sm, .inr (3, [.int (nI rc), .int (nI bo), .ref u1, .ref u2, .ref u3, .ref u4, .ref u5, .ref u6, .int (nI ck), .int nA, .int nH, .int nP, .int nM])), (u1, .inl (cI, 30, .inl v1)), (u2, .inl (cI, 30, .inl v2)), (u3, .inl (cI, 30, .inl v3)), (u5, .inl (cI, 30, .inl v5)), (u6, .inl (cI, 30, .inl v6))]) [0, 1, 2, 3, 4, 5] rfl
        have hDc := hD.sub (ws' := [(sm, .inr (3, [.int (nI rc), .int (nI bo), .ref u1, .ref u2, .ref u3, .ref u4, .ref u5, .ref u6, .int (nI ck), .int nA, .int nH, .int nP, .int nM])), (u1, .inl (cI, 30, .inl v1)), (u2, .inl (cI, 30, .inl v2)), (u3, .inl (cI, 30, .inl v3)), (u5, .inl (cI, 30, .inl v5)), (u6, .inl (cI, 30, .inl v6))]) [0, 1, 2, 3, 4, 5] (by decide) rfl
        have hKc := hK.sub (tys' := [(cI, .int)]) [0] rfl
        have hFc := va_free (wc := [(sm, .inr (3, [.int (nI rc), .int (nI bo), .ref u1, .ref u2, .ref u3, .ref u4, .ref u5, .ref u6, .int (nI ck), .int nA, .int nH, .int nP, .int nM])), (u1, .inl (cI, 30, .inl v1)), (u2, .inl (cI, 30, .inl v2)), (u3, .inl (cI, 30, .inl v3)), (u5, .inl (cI, 30, .inl v5)), (u6, .inl (cI, 30, .inl v6))]) hD hS hA [0, 1, 2, 3, 4, 5] rfl
        refine va_callv (va_runV (As := [.int (nI b_21), .int (nI 4)]) (rest := []) ⟨hx, hb, hml, hown, hts⟩ (c_X3_put l G cI sm u1 u2 u3 u4 u5 u6 v1 v2 v3 v5 v6 rc bo ck nA nH nP nM b_21 4 (by omega) H_18.size) (cwV 2 hts gX3_makeRoom_X3_put rfl rfl rfl (by decide +kernel) ⟨Nat.le_of_ble_eq_true rfl, Nat.le_of_ble_eq_true rfl⟩) (g_preV (As := [.int (nI b_21), .int (nI 4)]) hPc hKc hDc 0 rfl rfl) rfl rfl hl.1 rfl (lv_room (Nat.le_of_ble_eq_true rfl)) dX3_makeRoom_71 ⟨(Nat.le_of_ble_eq_true rfl), (Nat.le_of_ble_eq_true rfl)⟩) hS (fun q _ h => hFc q h) hFc (fun u_24 t H_22 locs ht hvm hw hB hz1 hk1 hS1 => ?_)
        obtain ⟨hP1, hD1⟩ := g_join (wc := [(sm, .inr (3, [.int (nI rc), .int (nI bo), .ref u1, .ref u2, .ref u3, .ref u4, .ref u5, .ref u6, .int (nI ck), .int nA, .int nH, .int nP, .int nM])), (u1, .inl (cI, 30, .inl v1)), (u2, .inl (cI, 30, .inl v2)), (u3, .inl (cI, 30, .inl v3)), (u5, .inl (cI, 30, .inl v5)), (u6, .inl (cI, 30, .inl v6))]) (wr := []) (w1 := [(sm, .inr (3, [.int (nI rc), .int (nI bo), .ref u1, .ref u2, .ref u3, .ref u4, .ref u5, .ref u6, .int (nI (ck + 1)), .int nA, .int nH, .int nP, .int nM])), (u1, .inl (cI, 30, .inl (upd v1 b_21 (nI 4)))), (u2, .inl (cI, 30, .inl (upd v2 b_21 (nI (ck + 1))))), (u3, .inl (cI, 30, .inl v3)), (u5, .inl (cI, 30, .inl v5)), (u6, .inl (cI, 30, .inl v6))]) hP hD [0, 1, 2, 3, 4, 5] [] rfl rfl (by decide) (by decide) ht hk1 hFc hB
        clear hB hk1 hz1 hvm ht hPc hDc hKc hFc
        clear hP hD hS
        have hP : va_P G vwCl [(sm, .inr (3, [.int (nI rc), .int (nI bo), .ref u1, .ref u2, .ref u3, .ref u4, .ref u5, .ref u6, .int (nI (ck + 1)), .int nA, .int nH, .int nP, .int nM])), (u1, .inl (cI, 30, .inl (upd v1 b_21 (nI 4)))), (u2, .inl (cI, 30, .inl (upd v2 b_21 (nI (ck + 1))))), (u3, .inl (cI, 30, .inl v3)), (u5, .inl (cI, 30, .inl v5)), (u6, .inl (cI, 30, .inl v6))] H_22 := hP1
        have hD : va_D A [(sm, .inr (3, [.int (nI rc), .int (nI bo), .ref u1, .ref u2, .ref u3, .ref u4, .ref u5, .ref u6, .int (nI (ck + 1)), .int nA, .int nH, .int nP, .int nM])), (u1, .inl (cI, 30, .inl (upd v1 b_21 (nI 4)))), (u2, .inl (cI, 30, .inl (upd v2 b_21 (nI (ck + 1))))), (u3, .inl (cI, 30, .inl v3)), (u5, .inl (cI, 30, .inl v5)), (u6, .inl (cI, 30, .inl v6))] := hD1
        have hS := hS1
        clear hP1 hD1 hS1
        refine lv_goto (tgt := 91) hx hb dX3_makeRoom_74 (by decide) ?_
        have e9 : insq 4 (nI b_21) (delq (nI b_21) (L1, L2, L3, L4)) = sRoom rc bo ff (L1, L2, L3, L4) := by rw [← eb_21]; exact roC hsq.nd (by show ¬ L1.length + L2.length < rc; omega) hov h0b_21
        have hs9 := SQ.put hsq (j := b_21) (k := 4) (by omega) (by decide) (by decide)
        rw [e9] at hs9
        have hP9 := hP.sub (ws' := [(sm, .inr (3, [.int (nI rc), .int (nI bo), .ref u1, .ref u2, .ref u3, .ref u4, .ref u5, .ref u6, .int (nI (ck + 1)), .int nA, .int nH, .int nP, .int nM])), (u1, .inl (cI, 30, .inl (upd v1 b_21 (nI 4)))), (u2, .inl (cI, 30, .inl (upd v2 b_21 (nI (ck + 1))))), (u3, .inl (cI, 30, .inl v3)), (u5, .inl (cI, 30, .inl v5)), (u6, .inl (cI, 30, .inl v6))]) [0, 1, 2, 3, 4, 5] rfl
        have hD9 := hD.sub (ws' := [(sm, .inr (3, [.int (nI rc), .int (nI bo), .ref u1, .ref u2, .ref u3, .ref u4, .ref u5, .ref u6, .int (nI (ck + 1)), .int nA, .int nH, .int nP, .int nM])), (u1, .inl (cI, 30, .inl (upd v1 b_21 (nI 4)))), (u2, .inl (cI, 30, .inl (upd v2 b_21 (nI (ck + 1))))), (u3, .inl (cI, 30, .inl v3)), (u5, .inl (cI, 30, .inl v5)), (u6, .inl (cI, 30, .inl v6))]) [0, 1, 2, 3, 4, 5] (by decide) rfl
        exact W.vret hx hb hr (fun t ht hW => ⟨⟨(), rfl, trivial, _, _, _, hs9, (Nat.le_succ _), (Nat.le_refl _), g_at hP9 hK hD9 ht hW⟩, hS.F ht⟩) hS.2.2 dX3_makeRoom_91
    · refine lv_iload_n hx hb dX3_makeRoom_27 rfl (lv_at hl 1 rfl) ?_
      refine lv_aload_n hx hb dX3_makeRoom_28 rfl (lv_at hl 2 rfl) ?_
      refine va_get (D := G) (ci := 3) (v := .int (nI bo)) (C := RX3) (T := TX3) (N := 13) hx hb hts iX3_makeRoom_X3 hown hK hP 0 rfl rfl 1 (by decide) (hts (.fieldLink RX3 33 "GhostPantryLaw$Sim" "border" "I") (by decide +kernel)) (fun _ h9 => h9) rfl dX3_makeRoom_29 ?_
      refine g_icmp_gt (tgt := 47) hx hb dX3_makeRoom_32 (by decide) (by omega) (by omega) (fun c_25 => ?_) (fun c_25 => ?_)
      · refine lv_aload_n hx hb dX3_makeRoom_47 rfl (lv_at hl 2 rfl) ?_
        refine lv_aload_n hx hb dX3_makeRoom_48 rfl (lv_at hl 2 rfl) ?_
        refine lv_iconst (v := (nI 1)) hx hb dX3_makeRoom_49 (by decide +kernel) ?_
        have hPc := hP.sub (ws' := [(sm, .inr (3, [.int (nI rc), .int (nI bo), .ref u1, .ref u2, .ref u3, .ref u4, .ref u5, .ref u6, .int (nI ck), .int nA, .int nH, .int nP, .int nM])), (u1, .inl (cI, 30, .inl v1)), (u2, .inl (cI, 30, .inl v2)), (u3, .inl (cI, 30, .inl v3)), (u5, .inl (cI, 30, .inl v5)), (u6, .inl (cI, 30, .inl v6))]) [0, 1, 2, 3, 4, 5] rfl
        have hDc := hD.sub (ws' := [(sm, .inr (3, [.int (nI rc), .int (nI bo), .ref u1, .ref u2, .ref u3, .ref u4, .ref u5, .ref u6, .int (nI ck), .int nA, .int nH, .int nP, .int nM])), (u1, .inl (cI, 30, .inl v1)), (u2, .inl (cI, 30, .inl v2)), (u3, .inl (cI, 30, .inl v3)), (u5, .inl (cI, 30, .inl v5)), (u6, .inl (cI, 30, .inl v6))]) [0, 1, 2, 3, 4, 5] (by decide) rfl
        have hKc := hK.sub (tys' := [(cI, .int)]) [0] rfl
        have hFc := va_free (wc := [(sm, .inr (3, [.int (nI rc), .int (nI bo), .ref u1, .ref u2, .ref u3, .ref u4, .ref u5, .ref u6, .int (nI ck), .int nA, .int nH, .int nP, .int nM])), (u1, .inl (cI, 30, .inl v1)), (u2, .inl (cI, 30, .inl v2)), (u3, .inl (cI, 30, .inl v3)), (u5, .inl (cI, 30, .inl v5)), (u6, .inl (cI, 30, .inl v6))]) hD hS hA [0, 1, 2, 3, 4, 5] rfl
        refine va_calli (va_runV (As := [.int (nI 1)]) (rest := [.ref sm]) ⟨hx, hb, hml, hown, hts⟩ (c_X3_last l G cI sm u1 u2 u3 u4 u5 u6 v1 v2 v3 v5 v6 rc bo ck nA nH nP nM 1 H_4.size) (cwV 1 hts gX3_makeRoom_X3_last rfl rfl rfl (by decide +kernel) ⟨Nat.le_of_ble_eq_true rfl, Nat.le_of_ble_eq_true rfl⟩) (g_preV (As := [.int (nI 1)]) hPc hKc hDc 0 rfl rfl) rfl rfl hl.1 rfl (lv_room (Nat.le_of_ble_eq_true rfl)) dX3_makeRoom_50 ⟨(Nat.le_of_ble_eq_true rfl), (Nat.le_of_ble_eq_true rfl)⟩) hS (fun q _ h => hFc q h) hFc (fun r_27 u_28 t H_26 locs ht hvm hw hB hz1 hk1 hS1 => ?_)
        have hw := hw.symm
        subst hw
        obtain ⟨hP1, hD1⟩ := g_join (wc := [(sm, .inr (3, [.int (nI rc), .int (nI bo), .ref u1, .ref u2, .ref u3, .ref u4, .ref u5, .ref u6, .int (nI ck), .int nA, .int nH, .int nP, .int nM])), (u1, .inl (cI, 30, .inl v1)), (u2, .inl (cI, 30, .inl v2)), (u3, .inl (cI, 30, .inl v3)), (u5, .inl (cI, 30, .inl v5)), (u6, .inl (cI, 30, .inl v6))]) (wr := []) (w1 := [(sm, .inr (3, [.int (nI rc), .int (nI bo), .ref u1, .ref u2, .ref u3, .ref u4, .ref u5, .ref u6, .int (nI ck), .int nA, .int nH, .int nP, .int nM])), (u1, .inl (cI, 30, .inl v1)), (u2, .inl (cI, 30, .inl v2)), (u3, .inl (cI, 30, .inl v3)), (u5, .inl (cI, 30, .inl v5)), (u6, .inl (cI, 30, .inl v6))]) hP hD [0, 1, 2, 3, 4, 5] [] rfl rfl (by decide) (by decide) ht hk1 hFc hB
        clear hB hk1 hz1 hvm ht hPc hDc hKc hFc
        clear hP hD hS
        have hP : va_P G vwCl [(sm, .inr (3, [.int (nI rc), .int (nI bo), .ref u1, .ref u2, .ref u3, .ref u4, .ref u5, .ref u6, .int (nI ck), .int nA, .int nH, .int nP, .int nM])), (u1, .inl (cI, 30, .inl v1)), (u2, .inl (cI, 30, .inl v2)), (u3, .inl (cI, 30, .inl v3)), (u5, .inl (cI, 30, .inl v5)), (u6, .inl (cI, 30, .inl v6))] H_26 := hP1
        have hD : va_D A [(sm, .inr (3, [.int (nI rc), .int (nI bo), .ref u1, .ref u2, .ref u3, .ref u4, .ref u5, .ref u6, .int (nI ck), .int nA, .int nH, .int nP, .int nM])), (u1, .inl (cI, 30, .inl v1)), (u2, .inl (cI, 30, .inl v2)), (u3, .inl (cI, 30, .inl v3)), (u5, .inl (cI, 30, .inl v5)), (u6, .inl (cI, 30, .inl v6))] := hD1
        have hS := hS1
        clear hP1 hD1 hS1
        have h0b_29 : 0 < L1.length := by omega
        obtain ⟨b_29, hkb_29, eb_29⟩ : jarOk (lst L1) := (hsq).jrs.1 _ (lst_mem h0b_29)
        refine g_top (y := nI b_29) ((last_eq hsq (by omega) (k := 1) (by decide) (by decide) h0b_29).trans eb_29) ?_
        refine lv_iconst (v := (nI 3)) hx hb dX3_makeRoom_53 (by decide +kernel) ?_
        have hPc := hP.sub (ws' := [(sm, .inr (3, [.int (nI rc), .int (nI bo), .ref u1, .ref u2, .ref u3, .ref u4, .ref u5, .ref u6, .int (nI ck), .int nA, .int nH, .int nP, .int nM])), (u1, .inl (cI, 30, .inl v1)), (u2, .inl (cI, 30, .inl v2)), (u3, .inl (cI, 30, .inl v3)), (u5, .inl (cI, 30, .inl v5)), (u6, .inl (cI, 30, .inl v6))]) [0, 1, 2, 3, 4, 5] rfl
        have hDc := hD.sub (ws' := [(sm, .inr (3, [.int (nI rc), .int (nI bo), .ref u1, .ref u2, .ref u3, .ref u4, .ref u5, .ref u6, .int (nI ck), .int nA, .int nH, .int nP, .int nM])), (u1, .inl (cI, 30, .inl v1)), (u2, .inl (cI, 30, .inl v2)), (u3, .inl (cI, 30, .inl v3)), (u5, .inl (cI, 30, .inl v5)), (u6, .inl (cI, 30, .inl v6))]) [0, 1, 2, 3, 4, 5] (by decide) rfl
        have hKc := hK.sub (tys' := [(cI, .int)]) [0] rfl
        have hFc := va_free (wc := [(sm, .inr (3, [.int (nI rc), .int (nI bo), .ref u1, .ref u2, .ref u3, .ref u4, .ref u5, .ref u6, .int (nI ck), .int nA, .int nH, .int nP, .int nM])), (u1, .inl (cI, 30, .inl v1)), (u2, .inl (cI, 30, .inl v2)), (u3, .inl (cI, 30, .inl v3)), (u5, .inl (cI, 30, .inl v5)), (u6, .inl (cI, 30, .inl v6))]) hD hS hA [0, 1, 2, 3, 4, 5] rfl
        refine va_callv (va_runV (As := [.int (nI b_29), .int (nI 3)]) (rest := []) ⟨hx, hb, hml, hown, hts⟩ (c_X3_put l G cI sm u1 u2 u3 u4 u5 u6 v1 v2 v3 v5 v6 rc bo ck nA nH nP nM b_29 3 (by omega) H_26.size) (cwV 2 hts gX3_makeRoom_X3_put rfl rfl rfl (by decide +kernel) ⟨Nat.le_of_ble_eq_true rfl, Nat.le_of_ble_eq_true rfl⟩) (g_preV (As := [.int (nI b_29), .int (nI 3)]) hPc hKc hDc 0 rfl rfl) rfl rfl hl.1 rfl (lv_room (Nat.le_of_ble_eq_true rfl)) dX3_makeRoom_54 ⟨(Nat.le_of_ble_eq_true rfl), (Nat.le_of_ble_eq_true rfl)⟩) hS (fun q _ h => hFc q h) hFc (fun u_32 t H_30 locs ht hvm hw hB hz1 hk1 hS1 => ?_)
        obtain ⟨hP1, hD1⟩ := g_join (wc := [(sm, .inr (3, [.int (nI rc), .int (nI bo), .ref u1, .ref u2, .ref u3, .ref u4, .ref u5, .ref u6, .int (nI ck), .int nA, .int nH, .int nP, .int nM])), (u1, .inl (cI, 30, .inl v1)), (u2, .inl (cI, 30, .inl v2)), (u3, .inl (cI, 30, .inl v3)), (u5, .inl (cI, 30, .inl v5)), (u6, .inl (cI, 30, .inl v6))]) (wr := []) (w1 := [(sm, .inr (3, [.int (nI rc), .int (nI bo), .ref u1, .ref u2, .ref u3, .ref u4, .ref u5, .ref u6, .int (nI (ck + 1)), .int nA, .int nH, .int nP, .int nM])), (u1, .inl (cI, 30, .inl (upd v1 b_29 (nI 3)))), (u2, .inl (cI, 30, .inl (upd v2 b_29 (nI (ck + 1))))), (u3, .inl (cI, 30, .inl v3)), (u5, .inl (cI, 30, .inl v5)), (u6, .inl (cI, 30, .inl v6))]) hP hD [0, 1, 2, 3, 4, 5] [] rfl rfl (by decide) (by decide) ht hk1 hFc hB
        clear hB hk1 hz1 hvm ht hPc hDc hKc hFc
        clear hP hD hS
        have hP : va_P G vwCl [(sm, .inr (3, [.int (nI rc), .int (nI bo), .ref u1, .ref u2, .ref u3, .ref u4, .ref u5, .ref u6, .int (nI (ck + 1)), .int nA, .int nH, .int nP, .int nM])), (u1, .inl (cI, 30, .inl (upd v1 b_29 (nI 3)))), (u2, .inl (cI, 30, .inl (upd v2 b_29 (nI (ck + 1))))), (u3, .inl (cI, 30, .inl v3)), (u5, .inl (cI, 30, .inl v5)), (u6, .inl (cI, 30, .inl v6))] H_30 := hP1
        have hD : va_D A [(sm, .inr (3, [.int (nI rc), .int (nI bo), .ref u1, .ref u2, .ref u3, .ref u4, .ref u5, .ref u6, .int (nI (ck + 1)), .int nA, .int nH, .int nP, .int nM])), (u1, .inl (cI, 30, .inl (upd v1 b_29 (nI 3)))), (u2, .inl (cI, 30, .inl (upd v2 b_29 (nI (ck + 1))))), (u3, .inl (cI, 30, .inl v3)), (u5, .inl (cI, 30, .inl v5)), (u6, .inl (cI, 30, .inl v6))] := hD1
        have hS := hS1
        clear hP1 hD1 hS1
        refine lv_goto (tgt := 91) hx hb dX3_makeRoom_57 (by decide) ?_
        have e9 : insq 3 (nI b_29) (delq (nI b_29) (L1, L2, L3, L4)) = sRoom rc bo ff (L1, L2, L3, L4) := by rw [← eb_29]; exact roB hsq.nd (by show ¬ L1.length + L2.length < rc; omega) (show 0 < L1.length ∧ ((bo < L1.length ∨ (L1.length = bo ∧ ff = true)) ∨ L2.length = 0) from ⟨by omega, Or.inl (Or.inl (by omega))⟩)
        have hs9 := SQ.put hsq (j := b_29) (k := 3) (by omega) (by decide) (by decide)
        rw [e9] at hs9
        have hP9 := hP.sub (ws' := [(sm, .inr (3, [.int (nI rc), .int (nI bo), .ref u1, .ref u2, .ref u3, .ref u4, .ref u5, .ref u6, .int (nI (ck + 1)), .int nA, .int nH, .int nP, .int nM])), (u1, .inl (cI, 30, .inl (upd v1 b_29 (nI 3)))), (u2, .inl (cI, 30, .inl (upd v2 b_29 (nI (ck + 1))))), (u3, .inl (cI, 30, .inl v3)), (u5, .inl (cI, 30, .inl v5)), (u6, .inl (cI, 30, .inl v6))]) [0, 1, 2, 3, 4, 5] rfl
        have hD9 := hD.sub (ws' := [(sm, .inr (3, [.int (nI rc), .int (nI bo), .ref u1, .ref u2, .ref u3, .ref u4, .ref u5, .ref u6, .int (nI (ck + 1)), .int nA, .int nH, .int nP, .int nM])), (u1, .inl (cI, 30, .inl (upd v1 b_29 (nI 3)))), (u2, .inl (cI, 30, .inl (upd v2 b_29 (nI (ck + 1))))), (u3, .inl (cI, 30, .inl v3)), (u5, .inl (cI, 30, .inl v5)), (u6, .inl (cI, 30, .inl v6))]) [0, 1, 2, 3, 4, 5] (by decide) rfl
        exact W.vret hx hb hr (fun t ht hW => ⟨⟨(), rfl, trivial, _, _, _, hs9, (Nat.le_succ _), (Nat.le_refl _), g_at hP9 hK hD9 ht hW⟩, hS.F ht⟩) hS.2.2 dX3_makeRoom_91
      · refine lv_iload_n hx hb dX3_makeRoom_35 rfl (lv_at hl 3 rfl) ?_
        refine g_if_eq (tgt := 60) hx hb dX3_makeRoom_36 (by decide) (by omega) (fun c_33 => ?_) (fun c_33 => ?_)
        · refine lv_iload_n hx hb dX3_makeRoom_60 rfl (lv_at hl 0 rfl) ?_
          refine g_if_le (tgt := 77) hx hb dX3_makeRoom_61 (by decide) (by omega) (fun c_34 => ?_) (fun c_34 => ?_)
          · refine lv_iload_n hx hb dX3_makeRoom_77 rfl (lv_at hl 1 rfl) ?_
            refine g_if_le (tgt := 91) hx hb dX3_makeRoom_78 (by decide) (by omega) (fun c_35 => False.elim (by omega)) (fun c_35 => ?_)
            refine lv_aload_n hx hb dX3_makeRoom_81 rfl (lv_at hl 2 rfl) ?_
            refine lv_aload_n hx hb dX3_makeRoom_82 rfl (lv_at hl 2 rfl) ?_
            refine lv_iconst (v := (nI 1)) hx hb dX3_makeRoom_83 (by decide +kernel) ?_
            have hPc := hP.sub (ws' := [(sm, .inr (3, [.int (nI rc), .int (nI bo), .ref u1, .ref u2, .ref u3, .ref u4, .ref u5, .ref u6, .int (nI ck), .int nA, .int nH, .int nP, .int nM])), (u1, .inl (cI, 30, .inl v1)), (u2, .inl (cI, 30, .inl v2)), (u3, .inl (cI, 30, .inl v3)), (u5, .inl (cI, 30, .inl v5)), (u6, .inl (cI, 30, .inl v6))]) [0, 1, 2, 3, 4, 5] rfl
            have hDc := hD.sub (ws' := [(sm, .inr (3, [.int (nI rc), .int (nI bo), .ref u1, .ref u2, .ref u3, .ref u4, .ref u5, .ref u6, .int (nI ck), .int nA, .int nH, .int nP, .int nM])), (u1, .inl (cI, 30, .inl v1)), (u2, .inl (cI, 30, .inl v2)), (u3, .inl (cI, 30, .inl v3)), (u5, .inl (cI, 30, .inl v5)), (u6, .inl (cI, 30, .inl v6))]) [0, 1, 2, 3, 4, 5] (by decide) rfl
            have hKc := hK.sub (tys' := [(cI, .int)]) [0] rfl
            have hFc := va_free (wc := [(sm, .inr (3, [.int (nI rc), .int (nI bo), .ref u1, .ref u2, .ref u3, .ref u4, .ref u5, .ref u6, .int (nI ck), .int nA, .int nH, .int nP, .int nM])), (u1, .inl (cI, 30, .inl v1)), (u2, .inl (cI, 30, .inl v2)), (u3, .inl (cI, 30, .inl v3)), (u5, .inl (cI, 30, .inl v5)), (u6, .inl (cI, 30, .inl v6))]) hD hS hA [0, 1, 2, 3, 4, 5] rfl
            refine va_calli (va_runV (As := [.int (nI 1)]) (rest := [.ref sm]) ⟨hx, hb, hml, hown, hts⟩ (c_X3_last l G cI sm u1 u2 u3 u4 u5 u6 v1 v2 v3 v5 v6 rc bo ck nA nH nP nM 1 H_4.size) (cwV 1 hts gX3_makeRoom_X3_last rfl rfl rfl (by decide +kernel) ⟨Nat.le_of_ble_eq_true rfl, Nat.le_of_ble_eq_true rfl⟩) (g_preV (As := [.int (nI 1)]) hPc hKc hDc 0 rfl rfl) rfl rfl hl.1 rfl (lv_room (Nat.le_of_ble_eq_true rfl)) dX3_makeRoom_84 ⟨(Nat.le_of_ble_eq_true rfl), (Nat.le_of_ble_eq_true rfl)⟩) hS (fun q _ h => hFc q h) hFc (fun r_37 u_38 t H_36 locs ht hvm hw hB hz1 hk1 hS1 => ?_)
            have hw := hw.symm
            subst hw
            obtain ⟨hP1, hD1⟩ := g_join (wc := [(sm, .inr (3, [.int (nI rc), .int (nI bo), .ref u1, .ref u2, .ref u3, .ref u4, .ref u5, .ref u6, .int (nI ck), .int nA, .int nH, .int nP, .int nM])), (u1, .inl (cI, 30, .inl v1)), (u2, .inl (cI, 30, .inl v2)), (u3, .inl (cI, 30, .inl v3)), (u5, .inl (cI, 30, .inl v5)), (u6, .inl (cI, 30, .inl v6))]) (wr := []) (w1 := [(sm, .inr (3, [.int (nI rc), .int (nI bo), .ref u1, .ref u2, .ref u3, .ref u4, .ref u5, .ref u6, .int (nI ck), .int nA, .int nH, .int nP, .int nM])), (u1, .inl (cI, 30, .inl v1)), (u2, .inl (cI, 30, .inl v2)), (u3, .inl (cI, 30, .inl v3)), (u5, .inl (cI, 30, .inl v5)), (u6, .inl (cI, 30, .inl v6))]) hP hD [0, 1, 2, 3, 4, 5] [] rfl rfl (by decide) (by decide) ht hk1 hFc hB
            clear hB hk1 hz1 hvm ht hPc hDc hKc hFc
            clear hP hD hS
            have hP : va_P G vwCl [(sm, .inr (3, [.int (nI rc), .int (nI bo), .ref u1, .ref u2, .ref u3, .ref u4, .ref u5, .ref u6, .int (nI ck), .int nA, .int nH, .int nP, .int nM])), (u1, .inl (cI, 30, .inl v1)), (u2, .inl (cI, 30, .inl v2)), (u3, .inl (cI, 30, .inl v3)), (u5, .inl (cI, 30, .inl v5)), (u6, .inl (cI, 30, .inl v6))] H_36 := hP1
            have hD : va_D A [(sm, .inr (3, [.int (nI rc), .int (nI bo), .ref u1, .ref u2, .ref u3, .ref u4, .ref u5, .ref u6, .int (nI ck), .int nA, .int nH, .int nP, .int nM])), (u1, .inl (cI, 30, .inl v1)), (u2, .inl (cI, 30, .inl v2)), (u3, .inl (cI, 30, .inl v3)), (u5, .inl (cI, 30, .inl v5)), (u6, .inl (cI, 30, .inl v6))] := hD1
            have hS := hS1
            clear hP1 hD1 hS1
            have h0b_39 : 0 < L1.length := by omega
            obtain ⟨b_39, hkb_39, eb_39⟩ : jarOk (lst L1) := (hsq).jrs.1 _ (lst_mem h0b_39)
            refine g_top (y := nI b_39) ((last_eq hsq (by omega) (k := 1) (by decide) (by decide) h0b_39).trans eb_39) ?_
            refine lv_iconst (v := (nI 3)) hx hb dX3_makeRoom_87 (by decide +kernel) ?_
            have hPc := hP.sub (ws' := [(sm, .inr (3, [.int (nI rc), .int (nI bo), .ref u1, .ref u2, .ref u3, .ref u4, .ref u5, .ref u6, .int (nI ck), .int nA, .int nH, .int nP, .int nM])), (u1, .inl (cI, 30, .inl v1)), (u2, .inl (cI, 30, .inl v2)), (u3, .inl (cI, 30, .inl v3)), (u5, .inl (cI, 30, .inl v5)), (u6, .inl (cI, 30, .inl v6))]) [0, 1, 2, 3, 4, 5] rfl
            have hDc := hD.sub (ws' := [(sm, .inr (3, [.int (nI rc), .int (nI bo), .ref u1, .ref u2, .ref u3, .ref u4, .ref u5, .ref u6, .int (nI ck), .int nA, .int nH, .int nP, .int nM])), (u1, .inl (cI, 30, .inl v1)), (u2, .inl (cI, 30, .inl v2)), (u3, .inl (cI, 30, .inl v3)), (u5, .inl (cI, 30, .inl v5)), (u6, .inl (cI, 30, .inl v6))]) [0, 1, 2, 3, 4, 5] (by decide) rfl
            have hKc := hK.sub (tys' := [(cI, .int)]) [0] rfl
            have hFc := va_free (wc := [(sm, .inr (3, [.int (nI rc), .int (nI bo), .ref u1, .ref u2, .ref u3, .ref u4, .ref u5, .ref u6, .int (nI ck), .int nA, .int nH, .int nP, .int nM])), (u1, .inl (cI, 30, .inl v1)), (u2, .inl (cI, 30, .inl v2)), (u3, .inl (cI, 30, .inl v3)), (u5, .inl (cI, 30, .inl v5)), (u6, .inl (cI, 30, .inl v6))]) hD hS hA [0, 1, 2, 3, 4, 5] rfl
            refine va_callv (va_runV (As := [.int (nI b_39), .int (nI 3)]) (rest := []) ⟨hx, hb, hml, hown, hts⟩ (c_X3_put l G cI sm u1 u2 u3 u4 u5 u6 v1 v2 v3 v5 v6 rc bo ck nA nH nP nM b_39 3 (by omega) H_36.size) (cwV 2 hts gX3_makeRoom_X3_put rfl rfl rfl (by decide +kernel) ⟨Nat.le_of_ble_eq_true rfl, Nat.le_of_ble_eq_true rfl⟩) (g_preV (As := [.int (nI b_39), .int (nI 3)]) hPc hKc hDc 0 rfl rfl) rfl rfl hl.1 rfl (lv_room (Nat.le_of_ble_eq_true rfl)) dX3_makeRoom_88 ⟨(Nat.le_of_ble_eq_true rfl), (Nat.le_of_ble_eq_true rfl)⟩) hS (fun q _ h => hFc q h) hFc (fun u_42 t H_40 locs ht hvm hw hB hz1 hk1 hS1 => ?_)
            obtain ⟨hP1, hD1⟩ := g_join (wc := [(sm, .inr (3, [.int (nI rc), .int (nI bo), .ref u1, .ref u2, .ref u3, .ref u4, .ref u5, .ref u6, .int (nI ck), .int nA, .int nH, .int nP, .int nM])), (u1, .inl (cI, 30, .inl v1)), (u2, .inl (cI, 30, .inl v2)), (u3, .inl (cI, 30, .inl v3)), (u5, .inl (cI, 30, .inl v5)), (u6, .inl (cI, 30, .inl v6))]) (wr := []) (w1 := [(sm, .inr (3, [.int (nI rc), .int (nI bo), .ref u1, .ref u2, .ref u3, .ref u4, .ref u5, .ref u6, .int (nI (ck + 1)), .int nA, .int nH, .int nP, .int nM])), (u1, .inl (cI, 30, .inl (upd v1 b_39 (nI 3)))), (u2, .inl (cI, 30, .inl (upd v2 b_39 (nI (ck + 1))))), (u3, .inl (cI, 30, .inl v3)), (u5, .inl (cI, 30, .inl v5)), (u6, .inl (cI, 30, .inl v6))]) hP hD [0, 1, 2, 3, 4, 5] [] rfl rfl (by decide) (by decide) ht hk1 hFc hB
            clear hB hk1 hz1 hvm ht hPc hDc hKc hFc
            clear hP hD hS
            have hP : va_P G vwCl [(sm, .inr (3, [.int (nI rc), .int (nI bo), .ref u1, .ref u2, .ref u3, .ref u4, .ref u5, .ref u6, .int (nI (ck + 1)), .int nA, .int nH, .int nP, .int nM])), (u1, .inl (cI, 30, .inl (upd v1 b_39 (nI 3)))), (u2, .inl (cI, 30, .inl (upd v2 b_39 (nI (ck + 1))))), (u3, .inl (cI, 30, .inl v3)), (u5, .inl (cI, 30, .inl v5)), (u6, .inl (cI, 30, .inl v6))] H_40 := hP1
            have hD : va_D A [(sm, .inr (3, [.int (nI rc), .int (nI bo), .ref u1, .ref u2, .ref u3, .ref u4, .ref u5, .ref u6, .int (nI (ck + 1)), .int nA, .int nH, .int nP, .int nM])), (u1, .inl (cI, 30, .inl (upd v1 b_39 (nI 3)))), (u2, .inl (cI, 30, .inl (upd v2 b_39 (nI (ck + 1))))), (u3, .inl (cI, 30, .inl v3)), (u5, .inl (cI, 30, .inl v5)), (u6, .inl (cI, 30, .inl v6))] := hD1
            have hS := hS1
            clear hP1 hD1 hS1
            have e9 : insq 3 (nI b_39) (delq (nI b_39) (L1, L2, L3, L4)) = sRoom rc bo ff (L1, L2, L3, L4) := by rw [← eb_39]; exact roB hsq.nd (by show ¬ L1.length + L2.length < rc; omega) (show 0 < L1.length ∧ ((bo < L1.length ∨ (L1.length = bo ∧ ff = true)) ∨ L2.length = 0) from ⟨by omega, Or.inr (by omega)⟩)
            have hs9 := SQ.put hsq (j := b_39) (k := 3) (by omega) (by decide) (by decide)
            rw [e9] at hs9
            have hP9 := hP.sub (ws' := [(sm, .inr (3, [.int (nI rc), .int (nI bo), .ref u1, .ref u2, .ref u3, .ref u4, .ref u5, .ref u6, .int (nI (ck + 1)), .int nA, .int nH, .int nP, .int nM])), (u1, .inl (cI, 30, .inl (upd v1 b_39 (nI 3)))), (u2, .inl (cI, 30, .inl (upd v2 b_39 (nI (ck + 1))))), (u3, .inl (cI, 30, .inl v3)), (u5, .inl (cI, 30, .inl v5)), (u6, .inl (cI, 30, .inl v6))]) [0, 1, 2, 3, 4, 5] rfl
            have hD9 := hD.sub (ws' := [(sm, .inr (3, [.int (nI rc), .int (nI bo), .ref u1, .ref u2, .ref u3, .ref u4, .ref u5, .ref u6, .int (nI (ck + 1)), .int nA, .int nH, .int nP, .int nM])), (u1, .inl (cI, 30, .inl (upd v1 b_39 (nI 3)))), (u2, .inl (cI, 30, .inl (upd v2 b_39 (nI (ck + 1))))), (u3, .inl (cI, 30, .inl v3)), (u5, .inl (cI, 30, .inl v5)), (u6, .inl (cI, 30, .inl v6))]) [0, 1, 2, 3, 4, 5] (by decide) rfl
            exact W.vret hx hb hr (fun t ht hW => ⟨⟨(), rfl, trivial, _, _, _, hs9, (Nat.le_succ _), (Nat.le_refl _), g_at hP9 hK hD9 ht hW⟩, hS.F ht⟩) hS.2.2 dX3_makeRoom_91
          · have hov : ¬ (0 < L1.length ∧ ((bo < L1.length ∨ (L1.length = bo ∧ ff = true)) ∨ L2.length = 0)) := fun z => by
                rcases z with ⟨z1, (z2 | ⟨z2, z3⟩) | z2⟩
                · omega
                · rw [z3] at c_33
                  exact absurd c_33 (by decide)
                · omega
            refine lv_aload_n hx hb dX3_makeRoom_64 rfl (lv_at hl 2 rfl) ?_
            refine lv_aload_n hx hb dX3_makeRoom_65 rfl (lv_at hl 2 rfl) ?_
            refine lv_iconst (v := (nI 2)) hx hb dX3_makeRoom_66 (by decide +kernel) ?_
            have hPc := hP.sub (ws' := [(sm, .inr (3, [.int (nI rc), .int (nI bo), .ref u1, .ref u2, .ref u3, .ref u4, .ref u5, .ref u6, .int (nI ck), .int nA, .int nH, .int nP, .int nM])), (u1, .inl (cI, 30, .inl v1)), (u2, .inl (cI, 30, .inl v2)), (u3, .inl (cI, 30, .inl v3)), (u5, .inl (cI, 30, .inl v5)), (u6, .inl (cI, 30, .inl v6))]) [0, 1, 2, 3, 4, 5] rfl
            have hDc := hD.sub (ws' := [(sm, .inr (3, [.int (nI rc), .int (nI bo), .ref u1, .ref u2, .ref u3, .ref u4, .ref u5, .ref u6, .int (nI ck), .int nA, .int nH, .int nP, .int nM])), (u1, .inl (cI, 30, .inl v1)), (u2, .inl (cI, 30, .inl v2)), (u3, .inl (cI, 30, .inl v3)), (u5, .inl (cI, 30, .inl v5)), (u6, .inl (cI, 30, .inl v6))]) [0, 1, 2, 3, 4, 5] (by decide) rfl
            have hKc := hK.sub (tys' := [(cI, .int)]) [0] rfl
            have hFc := va_free (wc := [(sm, .inr (3, [.int (nI rc), .int (nI bo), .ref u1, .ref u2, .ref u3, .ref u4, .ref u5, .ref u6, .int (nI ck), .int nA, .int nH, .int nP, .int nM])), (u1, .inl (cI, 30, .inl v1)), (u2, .inl (cI, 30, .inl v2)), (u3, .inl (cI, 30, .inl v3)), (u5, .inl (cI, 30, .inl v5)), (u6, .inl (cI, 30, .inl v6))]) hD hS hA [0, 1, 2, 3, 4, 5] rfl
            refine va_calli (va_runV (As := [.int (nI 2)]) (rest := [.ref sm]) ⟨hx, hb, hml, hown, hts⟩ (c_X3_last l G cI sm u1 u2 u3 u4 u5 u6 v1 v2 v3 v5 v6 rc bo ck nA nH nP nM 2 H_4.size) (cwV 1 hts gX3_makeRoom_X3_last rfl rfl rfl (by decide +kernel) ⟨Nat.le_of_ble_eq_true rfl, Nat.le_of_ble_eq_true rfl⟩) (g_preV (As := [.int (nI 2)]) hPc hKc hDc 0 rfl rfl) rfl rfl hl.1 rfl (lv_room (Nat.le_of_ble_eq_true rfl)) dX3_makeRoom_67 ⟨(Nat.le_of_ble_eq_true rfl), (Nat.le_of_ble_eq_true rfl)⟩) hS (fun q _ h => hFc q h) hFc (fun r_44 u_45 t H_43 locs ht hvm hw hB hz1 hk1 hS1 => ?_)
            have hw := hw.symm
            subst hw
            obtain ⟨hP1, hD1⟩ := g_join (wc := [(sm, .inr (3, [.int (nI rc), .int (nI bo), .ref u1, .ref u2, .ref u3, .ref u4, .ref u5, .ref u6, .int (nI ck), .int nA, .int nH, .int nP, .int nM])), (u1, .inl (cI, 30, .inl v1)), (u2, .inl (cI, 30, .inl v2)), (u3, .inl (cI, 30, .inl v3)), (u5, .inl (cI, 30, .inl v5)), (u6, .inl (cI, 30, .inl v6))]) (wr := []) (w1 := [(sm, .inr (3, [.int (nI rc), .int (nI bo), .ref u1, .ref u2, .ref u3, .ref u4, .ref u5, .ref u6, .int (nI ck), .int nA, .int nH, .int nP, .int nM])), (u1, .inl (cI, 30, .inl v1)), (u2, .inl (cI, 30, .inl v2)), (u3, .inl (cI, 30, .inl v3)), (u5, .inl (cI, 30, .inl v5)), (u6, .inl (cI, 30, .inl v6))]) hP hD [0, 1, 2, 3, 4, 5] [] rfl rfl (by decide) (by decide) ht hk1 hFc hB
            clear hB hk1 hz1 hvm ht hPc hDc hKc hFc
            clear hP hD hS
            have hP : va_P G vwCl [(sm, .inr (3, [.int (nI rc), .int (nI bo), .ref u1, .ref u2, .ref u3, .ref u4, .ref u5, .ref u6, .int (nI ck), .int nA, .int nH, .int nP, .int nM])), (u1, .inl (cI, 30, .inl v1)), (u2, .inl (cI, 30, .inl v2)), (u3, .inl (cI, 30, .inl v3)), (u5, .inl (cI, 30, .inl v5)), (u6, .inl (cI, 30, .inl v6))] H_43 := hP1
            have hD : va_D A [(sm, .inr (3, [.int (nI rc), .int (nI bo), .ref u1, .ref u2, .ref u3, .ref u4, .ref u5, .ref u6, .int (nI ck), .int nA, .int nH, .int nP, .int nM])), (u1, .inl (cI, 30, .inl v1)), (u2, .inl (cI, 30, .inl v2)), (u3, .inl (cI, 30, .inl v3)), (u5, .inl (cI, 30, .inl v5)), (u6, .inl (cI, 30, .inl v6))] := hD1
            have hS := hS1
            clear hP1 hD1 hS1
            have h0b_46 : 0 < L2.length := by omega
            obtain ⟨b_46, hkb_46, eb_46⟩ : jarOk (lst L2) := (hsq).jrs.2.1 _ (lst_mem h0b_46)
            refine g_top (y := nI b_46) ((last_eq hsq (by omega) (k := 2) (by decide) (by decide) h0b_46).trans eb_46) ?_
            refine lv_iconst (v := (nI 4)) hx hb dX3_makeRoom_70 (by decide +kernel) ?_
            have hPc := hP.sub (ws' := [(sm, .inr (3, [.int (nI rc), .int (nI bo), .ref u1, .ref u2, .ref u3, .ref u4, .ref u5, .ref u6, .int (nI ck), .int nA, .int nH, .int nP, .int nM])), (u1, .inl (cI, 30, .inl v1)), (u2, .inl (cI, 30, .inl v2)), (u3, .inl (cI, 30, .inl v3)), (u5, .inl (cI, 30, .inl v5)), (u6, .inl (cI, 30, .inl v6))]) [0, 1, 2, 3, 4, 5] rfl
            have hDc := hD.sub (ws' := [(sm, .inr (3, [.int (nI rc), .int (nI bo), .ref u1, .ref u2, .ref u3, .ref u4, .ref u5, .ref u6, .int (nI ck), .int nA, .int nH, .int nP, .int nM])), (u1, .inl (cI, 30, .inl v1)), (u2, .inl (cI, 30, .inl v2)), (u3, .inl (cI, 30, .inl v3)), (u5, .inl (cI, 30, .inl v5)), (u6, .inl (cI, 30, .inl v6))]) [0, 1, 2, 3, 4, 5] (by decide) rfl
            have hKc := hK.sub (tys' := [(cI, .int)]) [0] rfl
            have hFc := va_free (wc := [(sm, .inr (3, [.int (nI rc), .int (nI bo), .ref u1, .ref u2, .ref u3, .ref u4, .ref u5, .ref u6, .int (nI ck), .int nA, .int nH, .int nP, .int nM])), (u1, .inl (cI, 30, .inl v1)), (u2, .inl (cI, 30, .inl v2)), (u3, .inl (cI, 30, .inl v3)), (u5, .inl (cI, 30, .inl v5)), (u6, .inl (cI, 30, .inl v6))]) hD hS hA [0, 1, 2, 3, 4, 5] rfl
            refine va_callv (va_runV (As := [.int (nI b_46), .int (nI 4)]) (rest := []) ⟨hx, hb, hml, hown, hts⟩ (c_X3_put l G cI sm u1 u2 u3 u4 u5 u6 v1 v2 v3 v5 v6 rc bo ck nA nH nP nM b_46 4 (by omega) H_43.size) (cwV 2 hts gX3_makeRoom_X3_put rfl rfl rfl (by decide +kernel) ⟨Nat.le_of_ble_eq_true rfl, Nat.le_of_ble_eq_true rfl⟩) (g_preV (As := [.int (nI b_46), .int (nI 4)]) hPc hKc hDc 0 rfl rfl) rfl rfl hl.1 rfl (lv_room (Nat.le_of_ble_eq_true rfl)) dX3_makeRoom_71 ⟨(Nat.le_of_ble_eq_true rfl), (Nat.le_of_ble_eq_true rfl)⟩) hS (fun q _ h => hFc q h) hFc (fun u_49 t H_47 locs ht hvm hw hB hz1 hk1 hS1 => ?_)
            obtain ⟨hP1, hD1⟩ := g_join (wc := [(sm, .inr (3, [.int (nI rc), .int (nI bo), .ref u1, .ref u2, .ref u3, .ref u4, .ref u5, .ref u6, .int (nI ck), .int nA, .int nH, .int nP, .int nM])), (u1, .inl (cI, 30, .inl v1)), (u2, .inl (cI, 30, .inl v2)), (u3, .inl (cI, 30, .inl v3)), (u5, .inl (cI, 30, .inl v5)), (u6, .inl (cI, 30, .inl v6))]) (wr := []) (w1 := [(sm, .inr (3, [.int (nI rc), .int (nI bo), .ref u1, .ref u2, .ref u3, .ref u4, .ref u5, .ref u6, .int (nI (ck + 1)), .int nA, .int nH, .int nP, .int nM])), (u1, .inl (cI, 30, .inl (upd v1 b_46 (nI 4)))), (u2, .inl (cI, 30, .inl (upd v2 b_46 (nI (ck + 1))))), (u3, .inl (cI, 30, .inl v3)), (u5, .inl (cI, 30, .inl v5)), (u6, .inl (cI, 30, .inl v6))]) hP hD [0, 1, 2, 3, 4, 5] [] rfl rfl (by decide) (by decide) ht hk1 hFc hB
            clear hB hk1 hz1 hvm ht hPc hDc hKc hFc
            clear hP hD hS
            have hP : va_P G vwCl [(sm, .inr (3, [.int (nI rc), .int (nI bo), .ref u1, .ref u2, .ref u3, .ref u4, .ref u5, .ref u6, .int (nI (ck + 1)), .int nA, .int nH, .int nP, .int nM])), (u1, .inl (cI, 30, .inl (upd v1 b_46 (nI 4)))), (u2, .inl (cI, 30, .inl (upd v2 b_46 (nI (ck + 1))))), (u3, .inl (cI, 30, .inl v3)), (u5, .inl (cI, 30, .inl v5)), (u6, .inl (cI, 30, .inl v6))] H_47 := hP1
            have hD : va_D A [(sm, .inr (3, [.int (nI rc), .int (nI bo), .ref u1, .ref u2, .ref u3, .ref u4, .ref u5, .ref u6, .int (nI (ck + 1)), .int nA, .int nH, .int nP, .int nM])), (u1, .inl (cI, 30, .inl (upd v1 b_46 (nI 4)))), (u2, .inl (cI, 30, .inl (upd v2 b_46 (nI (ck + 1))))), (u3, .inl (cI, 30, .inl v3)), (u5, .inl (cI, 30, .inl v5)), (u6, .inl (cI, 30, .inl v6))] := hD1
            have hS := hS1
            clear hP1 hD1 hS1
            refine lv_goto (tgt := 91) hx hb dX3_makeRoom_74 (by decide) ?_
            have e9 : insq 4 (nI b_46) (delq (nI b_46) (L1, L2, L3, L4)) = sRoom rc bo ff (L1, L2, L3, L4) := by rw [← eb_46]; exact roC hsq.nd (by show ¬ L1.length + L2.length < rc; omega) hov h0b_46
            have hs9 := SQ.put hsq (j := b_46) (k := 4) (by omega) (by decide) (by decide)
            rw [e9] at hs9
            have hP9 := hP.sub (ws' := [(sm, .inr (3, [.int (nI rc), .int (nI bo), .ref u1, .ref u2, .ref u3, .ref u4, .ref u5, .ref u6, .int (nI (ck + 1)), .int nA, .int nH, .int nP, .int nM])), (u1, .inl (cI, 30, .inl (upd v1 b_46 (nI 4)))), (u2, .inl (cI, 30, .inl (upd v2 b_46 (nI (ck + 1))))), (u3, .inl (cI, 30, .inl v3)), (u5, .inl (cI, 30, .inl v5)), (u6, .inl (cI, 30, .inl v6))]) [0, 1, 2, 3, 4, 5] rfl
            have hD9 := hD.sub (ws' := [(sm, .inr (3, [.int (nI rc), .int (nI bo), .ref u1, .ref u2, .ref u3, .ref u4, .ref u5, .ref u6, .int (nI (ck + 1)), .int nA, .int nH, .int nP, .int nM])), (u1, .inl (cI, 30, .inl (upd v1 b_46 (nI 4)))), (u2, .inl (cI, 30, .inl (upd v2 b_46 (nI (ck + 1))))), (u3, .inl (cI, 30, .inl v3)), (u5, .inl (cI, 30, .inl v5)), (u6, .inl (cI, 30, .inl v6))]) [0, 1, 2, 3, 4, 5] (by decide) rfl
            exact W.vret hx hb hr (fun t ht hW => ⟨⟨(), rfl, trivial, _, _, _, hs9, (Nat.le_succ _), (Nat.le_refl _), g_at hP9 hK hD9 ht hW⟩, hS.F ht⟩) hS.2.2 dX3_makeRoom_91
        · refine lv_iload_n hx hb dX3_makeRoom_39 rfl (lv_at hl 1 rfl) ?_
          refine lv_aload_n hx hb dX3_makeRoom_40 rfl (lv_at hl 2 rfl) ?_
          refine va_get (D := G) (ci := 3) (v := .int (nI bo)) (C := RX3) (T := TX3) (N := 13) hx hb hts iX3_makeRoom_X3 hown hK hP 0 rfl rfl 1 (by decide) (hts (.fieldLink RX3 33 "GhostPantryLaw$Sim" "border" "I") (by decide +kernel)) (fun _ h9 => h9) rfl dX3_makeRoom_41 ?_
          refine g_icmp_ne (tgt := 60) hx hb dX3_makeRoom_44 (by decide) (by omega) (by omega) (fun c_50 => ?_) (fun c_50 => ?_)
          · refine lv_iload_n hx hb dX3_makeRoom_60 rfl (lv_at hl 0 rfl) ?_
            refine g_if_le (tgt := 77) hx hb dX3_makeRoom_61 (by decide) (by omega) (fun c_51 => ?_) (fun c_51 => ?_)
            · refine lv_iload_n hx hb dX3_makeRoom_77 rfl (lv_at hl 1 rfl) ?_
              refine g_if_le (tgt := 91) hx hb dX3_makeRoom_78 (by decide) (by omega) (fun c_52 => False.elim (by omega)) (fun c_52 => ?_)
              refine lv_aload_n hx hb dX3_makeRoom_81 rfl (lv_at hl 2 rfl) ?_
              refine lv_aload_n hx hb dX3_makeRoom_82 rfl (lv_at hl 2 rfl) ?_
              refine lv_iconst (v := (nI 1)) hx hb dX3_makeRoom_83 (by decide +kernel) ?_
              have hPc := hP.sub (ws' := [(sm, .inr (3, [.int (nI rc), .int (nI bo), .ref u1, .ref u2, .ref u3, .ref u4, .ref u5, .ref u6, .int (nI ck), .int nA, .int nH, .int nP, .int nM])), (u1, .inl (cI, 30, .inl v1)), (u2, .inl (cI, 30, .inl v2)), (u3, .inl (cI, 30, .inl v3)), (u5, .inl (cI, 30, .inl v5)), (u6, .inl (cI, 30, .inl v6))]) [0, 1, 2, 3, 4, 5] rfl
              have hDc := hD.sub (ws' := [(sm, .inr (3, [.int (nI rc), .int (nI bo), .ref u1, .ref u2, .ref u3, .ref u4, .ref u5, .ref u6, .int (nI ck), .int nA, .int nH, .int nP, .int nM])), (u1, .inl (cI, 30, .inl v1)), (u2, .inl (cI, 30, .inl v2)), (u3, .inl (cI, 30, .inl v3)), (u5, .inl (cI, 30, .inl v5)), (u6, .inl (cI, 30, .inl v6))]) [0, 1, 2, 3, 4, 5] (by decide) rfl
              have hKc := hK.sub (tys' := [(cI, .int)]) [0] rfl
              have hFc := va_free (wc := [(sm, .inr (3, [.int (nI rc), .int (nI bo), .ref u1, .ref u2, .ref u3, .ref u4, .ref u5, .ref u6, .int (nI ck), .int nA, .int nH, .int nP, .int nM])), (u1, .inl (cI, 30, .inl v1)), (u2, .inl (cI, 30, .inl v2)), (u3, .inl (cI, 30, .inl v3)), (u5, .inl (cI, 30, .inl v5)), (u6, .inl (cI, 30, .inl v6))]) hD hS hA [0, 1, 2, 3, 4, 5] rfl
              refine va_calli (va_runV (As := [.int (nI 1)]) (rest := [.ref sm]) ⟨hx, hb, hml, hown, hts⟩ (c_X3_last l G cI sm u1 u2 u3 u4 u5 u6 v1 v2 v3 v5 v6 rc bo ck nA nH nP nM 1 H_4.size) (cwV 1 hts gX3_makeRoom_X3_last rfl rfl rfl (by decide +kernel) ⟨Nat.le_of_ble_eq_true rfl, Nat.le_of_ble_eq_true rfl⟩) (g_preV (As := [.int (nI 1)]) hPc hKc hDc 0 rfl rfl) rfl rfl hl.1 rfl (lv_room (Nat.le_of_ble_eq_true rfl)) dX3_makeRoom_84 ⟨(Nat.le_of_ble_eq_true rfl), (Nat.le_of_ble_eq_true rfl)⟩) hS (fun q _ h => hFc q h) hFc (fun r_54 u_55 t H_53 locs ht hvm hw hB hz1 hk1 hS1 => ?_)
              have hw := hw.symm
              subst hw
              obtain ⟨hP1, hD1⟩ := g_join (wc := [(sm, .inr (3, [.int (nI rc), .int (nI bo), .ref u1, .ref u2, .ref u3, .ref u4, .ref u5, .ref u6, .int (nI ck), .int nA, .int nH, .int nP, .int nM])), (u1, .inl (cI, 30, .inl v1)), (u2, .inl (cI, 30, .inl v2)), (u3, .inl (cI, 30, .inl v3)), (u5, .inl (cI, 30, .inl v5)), (u6, .inl (cI, 30, .inl v6))]) (wr := []) (w1 := [(sm, .inr (3, [.int (nI rc), .int (nI bo), .ref u1, .ref u2, .ref u3, .ref u4, .ref u5, .ref u6, .int (nI ck), .int nA, .int nH, .int nP, .int nM])), (u1, .inl (cI, 30, .inl v1)), (u2, .inl (cI, 30, .inl v2)), (u3, .inl (cI, 30, .inl v3)), (u5, .inl (cI, 30, .inl v5)), (u6, .inl (cI, 30, .inl v6))]) hP hD [0, 1, 2, 3, 4, 5] [] rfl rfl (by decide) (by decide) ht hk1 hFc hB
              clear hB hk1 hz1 hvm ht hPc hDc hKc hFc
              clear hP hD hS
              have hP : va_P G vwCl [(sm, .inr (3, [.int (nI rc), .int (nI bo), .ref u1, .ref u2, .ref u3, .ref u4, .ref u5, .ref u6, .int (nI ck), .int nA, .int nH, .int nP, .int nM])), (u1, .inl (cI, 30, .inl v1)), (u2, .inl (cI, 30, .inl v2)), (u3, .inl (cI, 30, .inl v3)), (u5, .inl (cI, 30, .inl v5)), (u6, .inl (cI, 30, .inl v6))] H_53 := hP1
              have hD : va_D A [(sm, .inr (3, [.int (nI rc), .int (nI bo), .ref u1, .ref u2, .ref u3, .ref u4, .ref u5, .ref u6, .int (nI ck), .int nA, .int nH, .int nP, .int nM])), (u1, .inl (cI, 30, .inl v1)), (u2, .inl (cI, 30, .inl v2)), (u3, .inl (cI, 30, .inl v3)), (u5, .inl (cI, 30, .inl v5)), (u6, .inl (cI, 30, .inl v6))] := hD1
              have hS := hS1
              clear hP1 hD1 hS1
              have h0b_56 : 0 < L1.length := by omega
              obtain ⟨b_56, hkb_56, eb_56⟩ : jarOk (lst L1) := (hsq).jrs.1 _ (lst_mem h0b_56)
              refine g_top (y := nI b_56) ((last_eq hsq (by omega) (k := 1) (by decide) (by decide) h0b_56).trans eb_56) ?_
              refine lv_iconst (v := (nI 3)) hx hb dX3_makeRoom_87 (by decide +kernel) ?_
              have hPc := hP.sub (ws' := [(sm, .inr (3, [.int (nI rc), .int (nI bo), .ref u1, .ref u2, .ref u3, .ref u4, .ref u5, .ref u6, .int (nI ck), .int nA, .int nH, .int nP, .int nM])), (u1, .inl (cI, 30, .inl v1)), (u2, .inl (cI, 30, .inl v2)), (u3, .inl (cI, 30, .inl v3)), (u5, .inl (cI, 30, .inl v5)), (u6, .inl (cI, 30, .inl v6))]) [0, 1, 2, 3, 4, 5] rfl
              have hDc := hD.sub (ws' := [(sm, .inr (3, [.int (nI rc), .int (nI bo), .ref u1, .ref u2, .ref u3, .ref u4, .ref u5, .ref u6, .int (nI ck), .int nA, .int nH, .int nP, .int nM])), (u1, .inl (cI, 30, .inl v1)), (u2, .inl (cI, 30, .inl v2)), (u3, .inl (cI, 30, .inl v3)), (u5, .inl (cI, 30, .inl v5)), (u6, .inl (cI, 30, .inl v6))]) [0, 1, 2, 3, 4, 5] (by decide) rfl
              have hKc := hK.sub (tys' := [(cI, .int)]) [0] rfl
              have hFc := va_free (wc := [(sm, .inr (3, [.int (nI rc), .int (nI bo), .ref u1, .ref u2, .ref u3, .ref u4, .ref u5, .ref u6, .int (nI ck), .int nA, .int nH, .int nP, .int nM])), (u1, .inl (cI, 30, .inl v1)), (u2, .inl (cI, 30, .inl v2)), (u3, .inl (cI, 30, .inl v3)), (u5, .inl (cI, 30, .inl v5)), (u6, .inl (cI, 30, .inl v6))]) hD hS hA [0, 1, 2, 3, 4, 5] rfl
              refine va_callv (va_runV (As := [.int (nI b_56), .int (nI 3)]) (rest := []) ⟨hx, hb, hml, hown, hts⟩ (c_X3_put l G cI sm u1 u2 u3 u4 u5 u6 v1 v2 v3 v5 v6 rc bo ck nA nH nP nM b_56 3 (by omega) H_53.size) (cwV 2 hts gX3_makeRoom_X3_put rfl rfl rfl (by decide +kernel) ⟨Nat.le_of_ble_eq_true rfl, Nat.le_of_ble_eq_true rfl⟩) (g_preV (As := [.int (nI b_56), .int (nI 3)]) hPc hKc hDc 0 rfl rfl) rfl rfl hl.1 rfl (lv_room (Nat.le_of_ble_eq_true rfl)) dX3_makeRoom_88 ⟨(Nat.le_of_ble_eq_true rfl), (Nat.le_of_ble_eq_true rfl)⟩) hS (fun q _ h => hFc q h) hFc (fun u_59 t H_57 locs ht hvm hw hB hz1 hk1 hS1 => ?_)
              obtain ⟨hP1, hD1⟩ := g_join (wc := [(sm, .inr (3, [.int (nI rc), .int (nI bo), .ref u1, .ref u2, .ref u3, .ref u4, .ref u5, .ref u6, .int (nI ck), .int nA, .int nH, .int nP, .int nM])), (u1, .inl (cI, 30, .inl v1)), (u2, .inl (cI, 30, .inl v2)), (u3, .inl (cI, 30, .inl v3)), (u5, .inl (cI, 30, .inl v5)), (u6, .inl (cI, 30, .inl v6))]) (wr := []) (w1 := [(sm, .inr (3, [.int (nI rc), .int (nI bo), .ref u1, .ref u2, .ref u3, .ref u4, .ref u5, .ref u6, .int (nI (ck + 1)), .int nA, .int nH, .int nP, .int nM])), (u1, .inl (cI, 30, .inl (upd v1 b_56 (nI 3)))), (u2, .inl (cI, 30, .inl (upd v2 b_56 (nI (ck + 1))))), (u3, .inl (cI, 30, .inl v3)), (u5, .inl (cI, 30, .inl v5)), (u6, .inl (cI, 30, .inl v6))]) hP hD [0, 1, 2, 3, 4, 5] [] rfl rfl (by decide) (by decide) ht hk1 hFc hB
              clear hB hk1 hz1 hvm ht hPc hDc hKc hFc
              clear hP hD hS
              have hP : va_P G vwCl [(sm, .inr (3, [.int (nI rc), .int (nI bo), .ref u1, .ref u2, .ref u3, .ref u4, .ref u5, .ref u6, .int (nI (ck + 1)), .int nA, .int nH, .int nP, .int nM])), (u1, .inl (cI, 30, .inl (upd v1 b_56 (nI 3)))), (u2, .inl (cI, 30, .inl (upd v2 b_56 (nI (ck + 1))))), (u3, .inl (cI, 30, .inl v3)), (u5, .inl (cI, 30, .inl v5)), (u6, .inl (cI, 30, .inl v6))] H_57 := hP1
              have hD : va_D A [(sm, .inr (3, [.int (nI rc), .int (nI bo), .ref u1, .ref u2, .ref u3, .ref u4, .ref u5, .ref u6, .int (nI (ck + 1)), .int nA, .int nH, .int nP, .int nM])), (u1, .inl (cI, 30, .inl (upd v1 b_56 (nI 3)))), (u2, .inl (cI, 30, .inl (upd v2 b_56 (nI (ck + 1))))), (u3, .inl (cI, 30, .inl v3)), (u5, .inl (cI, 30, .inl v5)), (u6, .inl (cI, 30, .inl v6))] := hD1
              have hS := hS1
              clear hP1 hD1 hS1
              have e9 : insq 3 (nI b_56) (delq (nI b_56) (L1, L2, L3, L4)) = sRoom rc bo ff (L1, L2, L3, L4) := by rw [← eb_56]; exact roB hsq.nd (by show ¬ L1.length + L2.length < rc; omega) (show 0 < L1.length ∧ ((bo < L1.length ∨ (L1.length = bo ∧ ff = true)) ∨ L2.length = 0) from ⟨by omega, Or.inr (by omega)⟩)
              have hs9 := SQ.put hsq (j := b_56) (k := 3) (by omega) (by decide) (by decide)
              rw [e9] at hs9
              have hP9 := hP.sub (ws' := [(sm, .inr (3, [.int (nI rc), .int (nI bo), .ref u1, .ref u2, .ref u3, .ref u4, .ref u5, .ref u6, .int (nI (ck + 1)), .int nA, .int nH, .int nP, .int nM])), (u1, .inl (cI, 30, .inl (upd v1 b_56 (nI 3)))), (u2, .inl (cI, 30, .inl (upd v2 b_56 (nI (ck + 1))))), (u3, .inl (cI, 30, .inl v3)), (u5, .inl (cI, 30, .inl v5)), (u6, .inl (cI, 30, .inl v6))]) [0, 1, 2, 3, 4, 5] rfl
              have hD9 := hD.sub (ws' := [(sm, .inr (3, [.int (nI rc), .int (nI bo), .ref u1, .ref u2, .ref u3, .ref u4, .ref u5, .ref u6, .int (nI (ck + 1)), .int nA, .int nH, .int nP, .int nM])), (u1, .inl (cI, 30, .inl (upd v1 b_56 (nI 3)))), (u2, .inl (cI, 30, .inl (upd v2 b_56 (nI (ck + 1))))), (u3, .inl (cI, 30, .inl v3)), (u5, .inl (cI, 30, .inl v5)), (u6, .inl (cI, 30, .inl v6))]) [0, 1, 2, 3, 4, 5] (by decide) rfl
              exact W.vret hx hb hr (fun t ht hW => ⟨⟨(), rfl, trivial, _, _, _, hs9, (Nat.le_succ _), (Nat.le_refl _), g_at hP9 hK hD9 ht hW⟩, hS.F ht⟩) hS.2.2 dX3_makeRoom_91
            · have hov : ¬ (0 < L1.length ∧ ((bo < L1.length ∨ (L1.length = bo ∧ ff = true)) ∨ L2.length = 0)) := fun z => by
                  rcases z with ⟨z1, (z2 | ⟨z2, z3⟩) | z2⟩ <;> omega
              refine lv_aload_n hx hb dX3_makeRoom_64 rfl (lv_at hl 2 rfl) ?_
              refine lv_aload_n hx hb dX3_makeRoom_65 rfl (lv_at hl 2 rfl) ?_
              refine lv_iconst (v := (nI 2)) hx hb dX3_makeRoom_66 (by decide +kernel) ?_
              have hPc := hP.sub (ws' := [(sm, .inr (3, [.int (nI rc), .int (nI bo), .ref u1, .ref u2, .ref u3, .ref u4, .ref u5, .ref u6, .int (nI ck), .int nA, .int nH, .int nP, .int nM])), (u1, .inl (cI, 30, .inl v1)), (u2, .inl (cI, 30, .inl v2)), (u3, .inl (cI, 30, .inl v3)), (u5, .inl (cI, 30, .inl v5)), (u6, .inl (cI, 30, .inl v6))]) [0, 1, 2, 3, 4, 5] rfl
              have hDc := hD.sub (ws' := [(sm, .inr (3, [.int (nI rc), .int (nI bo), .ref u1, .ref u2, .ref u3, .ref u4, .ref u5, .ref u6, .int (nI ck), .int nA, .int nH, .int nP, .int nM])), (u1, .inl (cI, 30, .inl v1)), (u2, .inl (cI, 30, .inl v2)), (u3, .inl (cI, 30, .inl v3)), (u5, .inl (cI, 30, .inl v5)), (u6, .inl (cI, 30, .inl v6))]) [0, 1, 2, 3, 4, 5] (by decide) rfl
              have hKc := hK.sub (tys' := [(cI, .int)]) [0] rfl
              have hFc := va_free (wc := [(sm, .inr (3, [.int (nI rc), .int (nI bo), .ref u1, .ref u2, .ref u3, .ref u4, .ref u5, .ref u6, .int (nI ck), .int nA, .int nH, .int nP, .int nM])), (u1, .inl (cI, 30, .inl v1)), (u2, .inl (cI, 30, .inl v2)), (u3, .inl (cI, 30, .inl v3)), (u5, .inl (cI, 30, .inl v5)), (u6, .inl (cI, 30, .inl v6))]) hD hS hA [0, 1, 2, 3, 4, 5] rfl
              refine va_calli (va_runV (As := [.int (nI 2)]) (rest := [.ref sm]) ⟨hx, hb, hml, hown, hts⟩ (c_X3_last l G cI sm u1 u2 u3 u4 u5 u6 v1 v2 v3 v5 v6 rc bo ck nA nH nP nM 2 H_4.size) (cwV 1 hts gX3_makeRoom_X3_last rfl rfl rfl (by decide +kernel) ⟨Nat.le_of_ble_eq_true rfl, Nat.le_of_ble_eq_true rfl⟩) (g_preV (As := [.int (nI 2)]) hPc hKc hDc 0 rfl rfl) rfl rfl hl.1 rfl (lv_room (Nat.le_of_ble_eq_true rfl)) dX3_makeRoom_67 ⟨(Nat.le_of_ble_eq_true rfl), (Nat.le_of_ble_eq_true rfl)⟩) hS (fun q _ h => hFc q h) hFc (fun r_61 u_62 t H_60 locs ht hvm hw hB hz1 hk1 hS1 => ?_)
              have hw := hw.symm
              subst hw
              obtain ⟨hP1, hD1⟩ := g_join (wc := [(sm, .inr (3, [.int (nI rc), .int (nI bo), .ref u1, .ref u2, .ref u3, .ref u4, .ref u5, .ref u6, .int (nI ck), .int nA, .int nH, .int nP, .int nM])), (u1, .inl (cI, 30, .inl v1)), (u2, .inl (cI, 30, .inl v2)), (u3, .inl (cI, 30, .inl v3)), (u5, .inl (cI, 30, .inl v5)), (u6, .inl (cI, 30, .inl v6))]) (wr := []) (w1 := [(sm, .inr (3, [.int (nI rc), .int (nI bo), .ref u1, .ref u2, .ref u3, .ref u4, .ref u5, .ref u6, .int (nI ck), .int nA, .int nH, .int nP, .int nM])), (u1, .inl (cI, 30, .inl v1)), (u2, .inl (cI, 30, .inl v2)), (u3, .inl (cI, 30, .inl v3)), (u5, .inl (cI, 30, .inl v5)), (u6, .inl (cI, 30, .inl v6))]) hP hD [0, 1, 2, 3, 4, 5] [] rfl rfl (by decide) (by decide) ht hk1 hFc hB
              clear hB hk1 hz1 hvm ht hPc hDc hKc hFc
              clear hP hD hS
              have hP : va_P G vwCl [(sm, .inr (3, [.int (nI rc), .int (nI bo), .ref u1, .ref u2, .ref u3, .ref u4, .ref u5, .ref u6, .int (nI ck), .int nA, .int nH, .int nP, .int nM])), (u1, .inl (cI, 30, .inl v1)), (u2, .inl (cI, 30, .inl v2)), (u3, .inl (cI, 30, .inl v3)), (u5, .inl (cI, 30, .inl v5)), (u6, .inl (cI, 30, .inl v6))] H_60 := hP1
              have hD : va_D A [(sm, .inr (3, [.int (nI rc), .int (nI bo), .ref u1, .ref u2, .ref u3, .ref u4, .ref u5, .ref u6, .int (nI ck), .int nA, .int nH, .int nP, .int nM])), (u1, .inl (cI, 30, .inl v1)), (u2, .inl (cI, 30, .inl v2)), (u3, .inl (cI, 30, .inl v3)), (u5, .inl (cI, 30, .inl v5)), (u6, .inl (cI, 30, .inl v6))] := hD1
              have hS := hS1
              clear hP1 hD1 hS1
              have h0b_63 : 0 < L2.length := by omega
              obtain ⟨b_63, hkb_63, eb_63⟩ : jarOk (lst L2) := (hsq).jrs.2.1 _ (lst_mem h0b_63)
              refine g_top (y := nI b_63) ((last_eq hsq (by omega) (k := 2) (by decide) (by decide) h0b_63).trans eb_63) ?_
              refine lv_iconst (v := (nI 4)) hx hb dX3_makeRoom_70 (by decide +kernel) ?_
              have hPc := hP.sub (ws' := [(sm, .inr (3, [.int (nI rc), .int (nI bo), .ref u1, .ref u2, .ref u3, .ref u4, .ref u5, .ref u6, .int (nI ck), .int nA, .int nH, .int nP, .int nM])), (u1, .inl (cI, 30, .inl v1)), (u2, .inl (cI, 30, .inl v2)), (u3, .inl (cI, 30, .inl v3)), (u5, .inl (cI, 30, .inl v5)), (u6, .inl (cI, 30, .inl v6))]) [0, 1, 2, 3, 4, 5] rfl
              have hDc := hD.sub (ws' := [(sm, .inr (3, [.int (nI rc), .int (nI bo), .ref u1, .ref u2, .ref u3, .ref u4, .ref u5, .ref u6, .int (nI ck), .int nA, .int nH, .int nP, .int nM])), (u1, .inl (cI, 30, .inl v1)), (u2, .inl (cI, 30, .inl v2)), (u3, .inl (cI, 30, .inl v3)), (u5, .inl (cI, 30, .inl v5)), (u6, .inl (cI, 30, .inl v6))]) [0, 1, 2, 3, 4, 5] (by decide) rfl
              have hKc := hK.sub (tys' := [(cI, .int)]) [0] rfl
              have hFc := va_free (wc := [(sm, .inr (3, [.int (nI rc), .int (nI bo), .ref u1, .ref u2, .ref u3, .ref u4, .ref u5, .ref u6, .int (nI ck), .int nA, .int nH, .int nP, .int nM])), (u1, .inl (cI, 30, .inl v1)), (u2, .inl (cI, 30, .inl v2)), (u3, .inl (cI, 30, .inl v3)), (u5, .inl (cI, 30, .inl v5)), (u6, .inl (cI, 30, .inl v6))]) hD hS hA [0, 1, 2, 3, 4, 5] rfl
              refine va_callv (va_runV (As := [.int (nI b_63), .int (nI 4)]) (rest := []) ⟨hx, hb, hml, hown, hts⟩ (c_X3_put l G cI sm u1 u2 u3 u4 u5 u6 v1 v2 v3 v5 v6 rc bo ck nA nH nP nM b_63 4 (by omega) H_60.size) (cwV 2 hts gX3_makeRoom_X3_put rfl rfl rfl (by decide +kernel) ⟨Nat.le_of_ble_eq_true rfl, Nat.le_of_ble_eq_true rfl⟩) (g_preV (As := [.int (nI b_63), .int (nI 4)]) hPc hKc hDc 0 rfl rfl) rfl rfl hl.1 rfl (lv_room (Nat.le_of_ble_eq_true rfl)) dX3_makeRoom_71 ⟨(Nat.le_of_ble_eq_true rfl), (Nat.le_of_ble_eq_true rfl)⟩) hS (fun q _ h => hFc q h) hFc (fun u_66 t H_64 locs ht hvm hw hB hz1 hk1 hS1 => ?_)
              obtain ⟨hP1, hD1⟩ := g_join (wc := [(sm, .inr (3, [.int (nI rc), .int (nI bo), .ref u1, .ref u2, .ref u3, .ref u4, .ref u5, .ref u6, .int (nI ck), .int nA, .int nH, .int nP, .int nM])), (u1, .inl (cI, 30, .inl v1)), (u2, .inl (cI, 30, .inl v2)), (u3, .inl (cI, 30, .inl v3)), (u5, .inl (cI, 30, .inl v5)), (u6, .inl (cI, 30, .inl v6))]) (wr := []) (w1 := [(sm, .inr (3, [.int (nI rc), .int (nI bo), .ref u1, .ref u2, .ref u3, .ref u4, .ref u5, .ref u6, .int (nI (ck + 1)), .int nA, .int nH, .int nP, .int nM])), (u1, .inl (cI, 30, .inl (upd v1 b_63 (nI 4)))), (u2, .inl (cI, 30, .inl (upd v2 b_63 (nI (ck + 1))))), (u3, .inl (cI, 30, .inl v3)), (u5, .inl (cI, 30, .inl v5)), (u6, .inl (cI, 30, .inl v6))]) hP hD [0, 1, 2, 3, 4, 5] [] rfl rfl (by decide) (by decide) ht hk1 hFc hB
              clear hB hk1 hz1 hvm ht hPc hDc hKc hFc
              clear hP hD hS
              have hP : va_P G vwCl [(sm, .inr (3, [.int (nI rc), .int (nI bo), .ref u1, .ref u2, .ref u3, .ref u4, .ref u5, .ref u6, .int (nI (ck + 1)), .int nA, .int nH, .int nP, .int nM])), (u1, .inl (cI, 30, .inl (upd v1 b_63 (nI 4)))), (u2, .inl (cI, 30, .inl (upd v2 b_63 (nI (ck + 1))))), (u3, .inl (cI, 30, .inl v3)), (u5, .inl (cI, 30, .inl v5)), (u6, .inl (cI, 30, .inl v6))] H_64 := hP1
              have hD : va_D A [(sm, .inr (3, [.int (nI rc), .int (nI bo), .ref u1, .ref u2, .ref u3, .ref u4, .ref u5, .ref u6, .int (nI (ck + 1)), .int nA, .int nH, .int nP, .int nM])), (u1, .inl (cI, 30, .inl (upd v1 b_63 (nI 4)))), (u2, .inl (cI, 30, .inl (upd v2 b_63 (nI (ck + 1))))), (u3, .inl (cI, 30, .inl v3)), (u5, .inl (cI, 30, .inl v5)), (u6, .inl (cI, 30, .inl v6))] := hD1
              have hS := hS1
              clear hP1 hD1 hS1
              refine lv_goto (tgt := 91) hx hb dX3_makeRoom_74 (by decide) ?_
              have e9 : insq 4 (nI b_63) (delq (nI b_63) (L1, L2, L3, L4)) = sRoom rc bo ff (L1, L2, L3, L4) := by rw [← eb_63]; exact roC hsq.nd (by show ¬ L1.length + L2.length < rc; omega) hov h0b_63
              have hs9 := SQ.put hsq (j := b_63) (k := 4) (by omega) (by decide) (by decide)
              rw [e9] at hs9
              have hP9 := hP.sub (ws' := [(sm, .inr (3, [.int (nI rc), .int (nI bo), .ref u1, .ref u2, .ref u3, .ref u4, .ref u5, .ref u6, .int (nI (ck + 1)), .int nA, .int nH, .int nP, .int nM])), (u1, .inl (cI, 30, .inl (upd v1 b_63 (nI 4)))), (u2, .inl (cI, 30, .inl (upd v2 b_63 (nI (ck + 1))))), (u3, .inl (cI, 30, .inl v3)), (u5, .inl (cI, 30, .inl v5)), (u6, .inl (cI, 30, .inl v6))]) [0, 1, 2, 3, 4, 5] rfl
              have hD9 := hD.sub (ws' := [(sm, .inr (3, [.int (nI rc), .int (nI bo), .ref u1, .ref u2, .ref u3, .ref u4, .ref u5, .ref u6, .int (nI (ck + 1)), .int nA, .int nH, .int nP, .int nM])), (u1, .inl (cI, 30, .inl (upd v1 b_63 (nI 4)))), (u2, .inl (cI, 30, .inl (upd v2 b_63 (nI (ck + 1))))), (u3, .inl (cI, 30, .inl v3)), (u5, .inl (cI, 30, .inl v5)), (u6, .inl (cI, 30, .inl v6))]) [0, 1, 2, 3, 4, 5] (by decide) rfl
              exact W.vret hx hb hr (fun t ht hW => ⟨⟨(), rfl, trivial, _, _, _, hs9, (Nat.le_succ _), (Nat.le_refl _), g_at hP9 hK hD9 ht hW⟩, hS.F ht⟩) hS.2.2 dX3_makeRoom_91
          · refine lv_aload_n hx hb dX3_makeRoom_47 rfl (lv_at hl 2 rfl) ?_
            refine lv_aload_n hx hb dX3_makeRoom_48 rfl (lv_at hl 2 rfl) ?_
            refine lv_iconst (v := (nI 1)) hx hb dX3_makeRoom_49 (by decide +kernel) ?_
            have hPc := hP.sub (ws' := [(sm, .inr (3, [.int (nI rc), .int (nI bo), .ref u1, .ref u2, .ref u3, .ref u4, .ref u5, .ref u6, .int (nI ck), .int nA, .int nH, .int nP, .int nM])), (u1, .inl (cI, 30, .inl v1)), (u2, .inl (cI, 30, .inl v2)), (u3, .inl (cI, 30, .inl v3)), (u5, .inl (cI, 30, .inl v5)), (u6, .inl (cI, 30, .inl v6))]) [0, 1, 2, 3, 4, 5] rfl
            have hDc := hD.sub (ws' := [(sm, .inr (3, [.int (nI rc), .int (nI bo), .ref u1, .ref u2, .ref u3, .ref u4, .ref u5, .ref u6, .int (nI ck), .int nA, .int nH, .int nP, .int nM])), (u1, .inl (cI, 30, .inl v1)), (u2, .inl (cI, 30, .inl v2)), (u3, .inl (cI, 30, .inl v3)), (u5, .inl (cI, 30, .inl v5)), (u6, .inl (cI, 30, .inl v6))]) [0, 1, 2, 3, 4, 5] (by decide) rfl
            have hKc := hK.sub (tys' := [(cI, .int)]) [0] rfl
            have hFc := va_free (wc := [(sm, .inr (3, [.int (nI rc), .int (nI bo), .ref u1, .ref u2, .ref u3, .ref u4, .ref u5, .ref u6, .int (nI ck), .int nA, .int nH, .int nP, .int nM])), (u1, .inl (cI, 30, .inl v1)), (u2, .inl (cI, 30, .inl v2)), (u3, .inl (cI, 30, .inl v3)), (u5, .inl (cI, 30, .inl v5)), (u6, .inl (cI, 30, .inl v6))]) hD hS hA [0, 1, 2, 3, 4, 5] rfl
            refine va_calli (va_runV (As := [.int (nI 1)]) (rest := [.ref sm]) ⟨hx, hb, hml, hown, hts⟩ (c_X3_last l G cI sm u1 u2 u3 u4 u5 u6 v1 v2 v3 v5 v6 rc bo ck nA nH nP nM 1 H_4.size) (cwV 1 hts gX3_makeRoom_X3_last rfl rfl rfl (by decide +kernel) ⟨Nat.le_of_ble_eq_true rfl, Nat.le_of_ble_eq_true rfl⟩) (g_preV (As := [.int (nI 1)]) hPc hKc hDc 0 rfl rfl) rfl rfl hl.1 rfl (lv_room (Nat.le_of_ble_eq_true rfl)) dX3_makeRoom_50 ⟨(Nat.le_of_ble_eq_true rfl), (Nat.le_of_ble_eq_true rfl)⟩) hS (fun q _ h => hFc q h) hFc (fun r_68 u_69 t H_67 locs ht hvm hw hB hz1 hk1 hS1 => ?_)
            have hw := hw.symm
            subst hw
            obtain ⟨hP1, hD1⟩ := g_join (wc := [(sm, .inr (3, [.int (nI rc), .int (nI bo), .ref u1, .ref u2, .ref u3, .ref u4, .ref u5, .ref u6, .int (nI ck), .int nA, .int nH, .int nP, .int nM])), (u1, .inl (cI, 30, .inl v1)), (u2, .inl (cI, 30, .inl v2)), (u3, .inl (cI, 30, .inl v3)), (u5, .inl (cI, 30, .inl v5)), (u6, .inl (cI, 30, .inl v6))]) (wr := []) (w1 := [(sm, .inr (3, [.int (nI rc), .int (nI bo), .ref u1, .ref u2, .ref u3, .ref u4, .ref u5, .ref u6, .int (nI ck), .int nA, .int nH, .int nP, .int nM])), (u1, .inl (cI, 30, .inl v1)), (u2, .inl (cI, 30, .inl v2)), (u3, .inl (cI, 30, .inl v3)), (u5, .inl (cI, 30, .inl v5)), (u6, .inl (cI, 30, .inl v6))]) hP hD [0, 1, 2, 3, 4, 5] [] rfl rfl (by decide) (by decide) ht hk1 hFc hB
            clear hB hk1 hz1 hvm ht hPc hDc hKc hFc
            clear hP hD hS
            have hP : va_P G vwCl [(sm, .inr (3, [.int (nI rc), .int (nI bo), .ref u1, .ref u2, .ref u3, .ref u4, .ref u5, .ref u6, .int (nI ck), .int nA, .int nH, .int nP, .int nM])), (u1, .inl (cI, 30, .inl v1)), (u2, .inl (cI, 30, .inl v2)), (u3, .inl (cI, 30, .inl v3)), (u5, .inl (cI, 30, .inl v5)), (u6, .inl (cI, 30, .inl v6))] H_67 := hP1
            have hD : va_D A [(sm, .inr (3, [.int (nI rc), .int (nI bo), .ref u1, .ref u2, .ref u3, .ref u4, .ref u5, .ref u6, .int (nI ck), .int nA, .int nH, .int nP, .int nM])), (u1, .inl (cI, 30, .inl v1)), (u2, .inl (cI, 30, .inl v2)), (u3, .inl (cI, 30, .inl v3)), (u5, .inl (cI, 30, .inl v5)), (u6, .inl (cI, 30, .inl v6))] := hD1
            have hS := hS1
            clear hP1 hD1 hS1
            have h0b_70 : 0 < L1.length := by omega
            obtain ⟨b_70, hkb_70, eb_70⟩ : jarOk (lst L1) := (hsq).jrs.1 _ (lst_mem h0b_70)
            refine g_top (y := nI b_70) ((last_eq hsq (by omega) (k := 1) (by decide) (by decide) h0b_70).trans eb_70) ?_
            refine lv_iconst (v := (nI 3)) hx hb dX3_makeRoom_53 (by decide +kernel) ?_
            have hPc := hP.sub (ws' := [(sm, .inr (3, [.int (nI rc), .int (nI bo), .ref u1, .ref u2, .ref u3, .ref u4, .ref u5, .ref u6, .int (nI ck), .int nA, .int nH, .int nP, .int nM])), (u1, .inl (cI, 30, .inl v1)), (u2, .inl (cI, 30, .inl v2)), (u3, .inl (cI, 30, .inl v3)), (u5, .inl (cI, 30, .inl v5)), (u6, .inl (cI, 30, .inl v6))]) [0, 1, 2, 3, 4, 5] rfl
            have hDc := hD.sub (ws' := [(sm, .inr (3, [.int (nI rc), .int (nI bo), .ref u1, .ref u2, .ref u3, .ref u4, .ref u5, .ref u6, .int (nI ck), .int nA, .int nH, .int nP, .int nM])), (u1, .inl (cI, 30, .inl v1)), (u2, .inl (cI, 30, .inl v2)), (u3, .inl (cI, 30, .inl v3)), (u5, .inl (cI, 30, .inl v5)), (u6, .inl (cI, 30, .inl v6))]) [0, 1, 2, 3, 4, 5] (by decide) rfl
            have hKc := hK.sub (tys' := [(cI, .int)]) [0] rfl
            have hFc := va_free (wc := [(sm, .inr (3, [.int (nI rc), .int (nI bo), .ref u1, .ref u2, .ref u3, .ref u4, .ref u5, .ref u6, .int (nI ck), .int nA, .int nH, .int nP, .int nM])), (u1, .inl (cI, 30, .inl v1)), (u2, .inl (cI, 30, .inl v2)), (u3, .inl (cI, 30, .inl v3)), (u5, .inl (cI, 30, .inl v5)), (u6, .inl (cI, 30, .inl v6))]) hD hS hA [0, 1, 2, 3, 4, 5] rfl
            refine va_callv (va_runV (As := [.int (nI b_70), .int (nI 3)]) (rest := []) ⟨hx, hb, hml, hown, hts⟩ (c_X3_put l G cI sm u1 u2 u3 u4 u5 u6 v1 v2 v3 v5 v6 rc bo ck nA nH nP nM b_70 3 (by omega) H_67.size) (cwV 2 hts gX3_makeRoom_X3_put rfl rfl rfl (by decide +kernel) ⟨Nat.le_of_ble_eq_true rfl, Nat.le_of_ble_eq_true rfl⟩) (g_preV (As := [.int (nI b_70), .int (nI 3)]) hPc hKc hDc 0 rfl rfl) rfl rfl hl.1 rfl (lv_room (Nat.le_of_ble_eq_true rfl)) dX3_makeRoom_54 ⟨(Nat.le_of_ble_eq_true rfl), (Nat.le_of_ble_eq_true rfl)⟩) hS (fun q _ h => hFc q h) hFc (fun u_73 t H_71 locs ht hvm hw hB hz1 hk1 hS1 => ?_)
            obtain ⟨hP1, hD1⟩ := g_join (wc := [(sm, .inr (3, [.int (nI rc), .int (nI bo), .ref u1, .ref u2, .ref u3, .ref u4, .ref u5, .ref u6, .int (nI ck), .int nA, .int nH, .int nP, .int nM])), (u1, .inl (cI, 30, .inl v1)), (u2, .inl (cI, 30, .inl v2)), (u3, .inl (cI, 30, .inl v3)), (u5, .inl (cI, 30, .inl v5)), (u6, .inl (cI, 30, .inl v6))]) (wr := []) (w1 := [(sm, .inr (3, [.int (nI rc), .int (nI bo), .ref u1, .ref u2, .ref u3, .ref u4, .ref u5, .ref u6, .int (nI (ck + 1)), .int nA, .int nH, .int nP, .int nM])), (u1, .inl (cI, 30, .inl (upd v1 b_70 (nI 3)))), (u2, .inl (cI, 30, .inl (upd v2 b_70 (nI (ck + 1))))), (u3, .inl (cI, 30, .inl v3)), (u5, .inl (cI, 30, .inl v5)), (u6, .inl (cI, 30, .inl v6))]) hP hD [0, 1, 2, 3, 4, 5] [] rfl rfl (by decide) (by decide) ht hk1 hFc hB
            clear hB hk1 hz1 hvm ht hPc hDc hKc hFc
            clear hP hD hS
            have hP : va_P G vwCl [(sm, .inr (3, [.int (nI rc), .int (nI bo), .ref u1, .ref u2, .ref u3, .ref u4, .ref u5, .ref u6, .int (nI (ck + 1)), .int nA, .int nH, .int nP, .int nM])), (u1, .inl (cI, 30, .inl (upd v1 b_70 (nI 3)))), (u2, .inl (cI, 30, .inl (upd v2 b_70 (nI (ck + 1))))), (u3, .inl (cI, 30, .inl v3)), (u5, .inl (cI, 30, .inl v5)), (u6, .inl (cI, 30, .inl v6))] H_71 := hP1
            have hD : va_D A [(sm, .inr (3, [.int (nI rc), .int (nI bo), .ref u1, .ref u2, .ref u3, .ref u4, .ref u5, .ref u6, .int (nI (ck + 1)), .int nA, .int nH, .int nP, .int nM])), (u1, .inl (cI, 30, .inl (upd v1 b_70 (nI 3)))), (u2, .inl (cI, 30, .inl (upd v2 b_70 (nI (ck + 1))))), (u3, .inl (cI, 30, .inl v3)), (u5, .inl (cI, 30, .inl v5)), (u6, .inl (cI, 30, .inl v6))] := hD1
            have hS := hS1
            clear hP1 hD1 hS1
            refine lv_goto (tgt := 91) hx hb dX3_makeRoom_57 (by decide) ?_
            have e9 : insq 3 (nI b_70) (delq (nI b_70) (L1, L2, L3, L4)) = sRoom rc bo ff (L1, L2, L3, L4) := by rw [← eb_70]; exact roB hsq.nd (by show ¬ L1.length + L2.length < rc; omega) (show 0 < L1.length ∧ ((bo < L1.length ∨ (L1.length = bo ∧ ff = true)) ∨ L2.length = 0) from ⟨by omega, Or.inl (Or.inr ⟨by omega, ff_t (by assumption)⟩)⟩)
            have hs9 := SQ.put hsq (j := b_70) (k := 3) (by omega) (by decide) (by decide)
            rw [e9] at hs9
            have hP9 := hP.sub (ws' := [(sm, .inr (3, [.int (nI rc), .int (nI bo), .ref u1, .ref u2, .ref u3, .ref u4, .ref u5, .ref u6, .int (nI (ck + 1)), .int nA, .int nH, .int nP, .int nM])), (u1, .inl (cI, 30, .inl (upd v1 b_70 (nI 3)))), (u2, .inl (cI, 30, .inl (upd v2 b_70 (nI (ck + 1))))), (u3, .inl (cI, 30, .inl v3)), (u5, .inl (cI, 30, .inl v5)), (u6, .inl (cI, 30, .inl v6))]) [0, 1, 2, 3, 4, 5] rfl
            have hD9 := hD.sub (ws' := [(sm, .inr (3, [.int (nI rc), .int (nI bo), .ref u1, .ref u2, .ref u3, .ref u4, .ref u5, .ref u6, .int (nI (ck + 1)), .int nA, .int nH, .int nP, .int nM])), (u1, .inl (cI, 30, .inl (upd v1 b_70 (nI 3)))), (u2, .inl (cI, 30, .inl (upd v2 b_70 (nI (ck + 1))))), (u3, .inl (cI, 30, .inl v3)), (u5, .inl (cI, 30, .inl v5)), (u6, .inl (cI, 30, .inl v6))]) [0, 1, 2, 3, 4, 5] (by decide) rfl
            exact W.vret hx hb hr (fun t ht hW => ⟨⟨(), rfl, trivial, _, _, _, hs9, (Nat.le_succ _), (Nat.le_refl _), g_at hP9 hK hD9 ht hW⟩, hS.F ht⟩) hS.2.2 dX3_makeRoom_91
  · have e9 : sRoom rc bo ff (L1, L2, L3, L4) = (L1, L2, L3, L4) := roA (by show L1.length + L2.length < rc; omega)
    have hs9 : SQ v1 v2 ck (sRoom rc bo ff (L1, L2, L3, L4)) := by rw [e9]; exact hsq
    have hP9 := hP.sub (ws' := [(sm, .inr (3, [.int (nI rc), .int (nI bo), .ref u1, .ref u2, .ref u3, .ref u4, .ref u5, .ref u6, .int (nI ck), .int nA, .int nH, .int nP, .int nM])), (u1, .inl (cI, 30, .inl v1)), (u2, .inl (cI, 30, .inl v2)), (u3, .inl (cI, 30, .inl v3)), (u5, .inl (cI, 30, .inl v5)), (u6, .inl (cI, 30, .inl v6))]) [0, 1, 2, 3, 4, 5] rfl
    have hD9 := hD.sub (ws' := [(sm, .inr (3, [.int (nI rc), .int (nI bo), .ref u1, .ref u2, .ref u3, .ref u4, .ref u5, .ref u6, .int (nI ck), .int nA, .int nH, .int nP, .int nM])), (u1, .inl (cI, 30, .inl v1)), (u2, .inl (cI, 30, .inl v2)), (u3, .inl (cI, 30, .inl v3)), (u5, .inl (cI, 30, .inl v5)), (u6, .inl (cI, 30, .inl v6))]) [0, 1, 2, 3, 4, 5] (by decide) rfl
    exact W.vret hx hb hr (fun t ht hW => ⟨⟨(), rfl, trivial, v1, v2, ck, hs9, Nat.le_refl _, (by omega), g_at hP9 hK hD9 ht hW⟩, hS.F ht⟩) hS.2.2 dX3_makeRoom_22

set_option maxRecDepth 20000 in
theorem iX3_move_X3 : ∀ w ∈ wsX30, w ∈ wsX3_move := by decide +kernel
set_option maxHeartbeats 4000000 in
set_option maxRecDepth 100000 in
theorem c_X3_move (l : Launch) (G : va_G) (cI : ClassId) (sm u1 u2 u3 u4 u5 u6 : Nat) (v1 v2 v3 v5 v6 : Nat → Int32) (rc bo ck : Nat) (nA nH nP nM : Int32) (tv : Int32) (b9 : Nat) (hb9 : clampI rc tv = nI b9) (hr9 : rc ≤ 12) (hb2 : b9 ≤ rc) (hb3 : bo ≤ rc) (sz : Nat) : Met l yX3_move wsX3_move ({ frames := 0, cells := 0, slots := 0, locals := 0 }) (va_Pc [.ref sm, .int tv] (gpre G [(cI, .int)] [(sm, .inr (3, [.int (nI rc), .int (nI bo), .ref u1, .ref u2, .ref u3, .ref u4, .ref u5, .ref u6, .int (nI ck), .int nA, .int nH, .int nP, .int nM])), (u1, .inl (cI, 30, .inl v1)), (u2, .inl (cI, 30, .inl v2)), (u3, .inl (cI, 30, .inl v3)), (u5, .inl (cI, 30, .inl v5)), (u6, .inl (cI, 30, .inl v6))] sz)) (va_Qv (fun (_ : Unit) => True) (fun (_ : Unit) t => gat G [(cI, .int)] (va_A [(sm, .inr (3, [.int (nI rc), .int (nI bo), .ref u1, .ref u2, .ref u3, .ref u4, .ref u5, .ref u6, .int (nI ck), .int nA, .int nH, .int nP, .int nM])), (u1, .inl (cI, 30, .inl v1)), (u2, .inl (cI, 30, .inl v2)), (u3, .inl (cI, 30, .inl v3)), (u5, .inl (cI, 30, .inl v5)), (u6, .inl (cI, 30, .inl v6))] sz) [(sm, .inr (3, [.int (nI rc), .int (nI b9), .ref u1, .ref u2, .ref u3, .ref u4, .ref u5, .ref u6, .int (nI ck), .int nA, .int nH, .int nP, .int (nM + (nI (dist bo b9)))])), (u1, .inl (cI, 30, .inl v1)), (u2, .inl (cI, 30, .inl v2)), (u3, .inl (cI, 30, .inl v3)), (u5, .inl (cI, 30, .inl v5)), (u6, .inl (cI, 30, .inl v6))] t) (va_A [(sm, .inr (3, [.int (nI rc), .int (nI bo), .ref u1, .ref u2, .ref u3, .ref u4, .ref u5, .ref u6, .int (nI ck), .int nA, .int nH, .int nP, .int nM])), (u1, .inl (cI, 30, .inl v1)), (u2, .inl (cI, 30, .inl v2)), (u3, .inl (cI, 30, .inl v3)), (u5, .inl (cI, 30, .inl v5)), (u6, .inl (cI, 30, .inl v6))] sz)) 0 0 (va_A [(sm, .inr (3, [.int (nI rc), .int (nI bo), .ref u1, .ref u2, .ref u3, .ref u4, .ref u5, .ref u6, .int (nI ck), .int nA, .int nH, .int nP, .int nM])), (u1, .inl (cI, 30, .inl v1)), (u2, .inl (cI, 30, .inl v2)), (u3, .inl (cI, 30, .inl v3)), (u5, .inl (cI, 30, .inl v5)), (u6, .inl (cI, 30, .inl v6))] sz) := by
  refine Met.ofW (cc := cX3_move) (maxL := 3) (ret := none) (by decide) rfl ?_
  intro p e s m args below meth c s₁ B hml hv
  obtain ⟨rfl, hsz, hP, hK, hD0⟩ := hv
  have hx := B.exec
  have hb := B.bytes
  have hr := B.returns
  have hts := atoms_spec (ws := wsX3_move) B.pre
  have hown : s.vm.findClass RX3 = some m.cls := findClass_of_methodNamed B.named
  have hlocks := B.notSynchronized
  subst hsz
  have hD := hD0.self (sz := s.heap.size)
  clear hD0
  generalize hAe : va_A [(sm, .inr (3, [.int (nI rc), .int (nI bo), .ref u1, .ref u2, .ref u3, .ref u4, .ref u5, .ref u6, .int (nI ck), .int nA, .int nH, .int nP, .int nM])), (u1, .inl (cI, 30, .inl v1)), (u2, .inl (cI, 30, .inl v2)), (u3, .inl (cI, 30, .inl v3)), (u5, .inl (cI, 30, .inl v5)), (u6, .inl (cI, 30, .inl v6))] s.heap.size = A at hD ⊢
  have hA : ∀ q : Nat, s.heap.size ≤ q → A q := fun q h => by rw [← hAe]; exact Or.inr h
  have hS : va_S A s.heap s.heap [] := va_S.rf
  have hP : va_P G vwCl [(sm, .inr (3, [.int (nI rc), .int (nI bo), .ref u1, .ref u2, .ref u3, .ref u4, .ref u5, .ref u6, .int (nI ck), .int nA, .int nH, .int nP, .int nM])), (u1, .inl (cI, 30, .inl v1)), (u2, .inl (cI, 30, .inl v2)), (u3, .inl (cI, 30, .inl v3)), (u5, .inl (cI, 30, .inl v5)), (u6, .inl (cI, 30, .inl v6))] s.heap := hP
  have hl := lv_entry ([.ref sm, .int tv]) (n := 3) (Nat.le_of_ble_eq_true rfl)
  rw [lg_entry_eq]
  generalize (lg_sl ([.ref sm, .int tv]) ++ List.replicate (3 - (lg_sl ([.ref sm, .int tv])).length) Slot.unset).toArray = ls at hl ⊢
  have hl : lv_has ls 3 [(0, .ref sm), (1, .int tv)] := hl
  refine lv_iload_n hx hb dX3_move_0 rfl (lv_at hl 1 rfl) ?_
  refine lv_if_ge (tgt := 8) hx hb dX3_move_1 (by decide) (fun c_1 => ?_) (fun c_1 => ?_)
  · refine lv_iload_n hx hb dX3_move_8 rfl (lv_at hl 1 rfl) ?_
    refine lv_aload_n hx hb dX3_move_9 rfl (lv_at hl 0 rfl) ?_
    refine va_get (D := G) (ci := 3) (v := .int (nI rc)) (C := RX3) (T := TX3) (N := 13) hx hb hts iX3_move_X3 hown hK hP 0 rfl rfl 0 (by decide) (hts (.fieldLink RX3 7 "GhostPantryLaw$Sim" "room" "I") (by decide +kernel)) (fun _ h9 => h9) rfl dX3_move_10 ?_
    refine lv_icmp_le (tgt := 23) hx hb dX3_move_13 (by decide) (fun c_2 => ?_) (fun c_2 => ?_)
    · refine lv_iload_n hx hb dX3_move_23 rfl (lv_at hl 1 rfl) ?_
      have e24 : tv = nI b9 := by rw [← hb9]; exact (show clampI rc tv = _ from (if_neg (Int32.not_lt.mpr c_1)).trans (if_neg (Int32.not_lt.mpr c_2))).symm
      refine g_top (y := nI b9) (e24) ?_
      refine lv_istore_n (lv' := [(2, .int (nI b9)), (0, .ref sm), (1, .int tv)]) hx hb dX3_move_24 rfl hl (by decide) rfl (fun ls hl => ?_)
      refine lv_aload_n hx hb dX3_move_25 rfl (lv_at hl 1 rfl) ?_
      refine lv_dup hx hb dX3_move_26 rfl ?_
      refine va_get (D := G) (ci := 3) (v := .int nM) (C := RX3) (T := TX3) (N := 13) hx hb hts iX3_move_X3 hown hK hP 0 rfl rfl 12 (by decide) (hts (.fieldLink RX3 53 "GhostPantryLaw$Sim" "steps" "I") (by decide +kernel)) (fun _ h9 => h9) rfl dX3_move_27 ?_
      refine lv_iload_n hx hb dX3_move_30 rfl (lv_at hl 0 rfl) ?_
      refine lv_aload_n hx hb dX3_move_31 rfl (lv_at hl 1 rfl) ?_
      refine va_get (D := G) (ci := 3) (v := .int (nI bo)) (C := RX3) (T := TX3) (N := 13) hx hb hts iX3_move_X3 hown hK hP 0 rfl rfl 1 (by decide) (hts (.fieldLink RX3 33 "GhostPantryLaw$Sim" "border" "I") (by decide +kernel)) (fun _ h9 => h9) rfl dX3_move_32 ?_
      refine g_icmp_le (tgt := 47) hx hb dX3_move_35 (by decide) (by omega) (by omega) (fun c_3 => ?_) (fun c_3 => ?_)
      · refine lv_aload_n hx hb dX3_move_47 rfl (lv_at hl 1 rfl) ?_
        refine va_get (D := G) (ci := 3) (v := .int (nI bo)) (C := RX3) (T := TX3) (N := 13) hx hb hts iX3_move_X3 hown hK hP 0 rfl rfl 1 (by decide) (hts (.fieldLink RX3 33 "GhostPantryLaw$Sim" "border" "I") (by decide +kernel)) (fun _ h9 => h9) rfl dX3_move_48 ?_
        refine lv_iload_n hx hb dX3_move_51 rfl (lv_at hl 0 rfl) ?_
        refine g_isub hx hb dX3_move_52 (by omega) ?_
        refine g_top (y := nI (dist bo b9)) (congrArg nI (show bo - b9 = dist bo b9 by unfold dist; omega)) ?_
        refine lv_iadd hx hb dX3_move_53 ?_
        refine va_put (D := G) (ci := 3) (v := .int (nM + (nI (dist bo b9)))) (ty := .int) (C := RX3) (T := TX3) (N := 13) hx hb hts iX3_move_X3 tyX3 tyX3_ok nmX3 hown hK hP hD hS 0 rfl rfl 12 (by decide) (hts (.fieldLink RX3 53 "GhostPantryLaw$Sim" "steps" "I") (by decide +kernel)) (fun _ h9 => h9) rfl (by decide +kernel) rfl rfl (Nat.le_of_ble_eq_true rfl) dX3_move_54 (fun H_4 locs hP1 hD1 hS1 => ?_)
        clear hP hD hS
        have hP : va_P G vwCl [(sm, .inr (3, [.int (nI rc), .int (nI bo), .ref u1, .ref u2, .ref u3, .ref u4, .ref u5, .ref u6, .int (nI ck), .int nA, .int nH, .int nP, .int (nM + (nI (dist bo b9)))])), (u1, .inl (cI, 30, .inl v1)), (u2, .inl (cI, 30, .inl v2)), (u3, .inl (cI, 30, .inl v3)), (u5, .inl (cI, 30, .inl v5)), (u6, .inl (cI, 30, .inl v6))] H_4 := hP1
        have hD : va_D A [(sm, .inr (3, [.int (nI rc), .int (nI bo), .ref u1, .ref u2, .ref u3, .ref u4, .ref u5, .ref u6, .int (nI ck), .int nA, .int nH, .int nP, .int (nM + (nI (dist bo b9)))])), (u1, .inl (cI, 30, .inl v1)), (u2, .inl (cI, 30, .inl v2)), (u3, .inl (cI, 30, .inl v3)), (u5, .inl (cI, 30, .inl v5)), (u6, .inl (cI, 30, .inl v6))] := hD1
        have hS := hS1
        clear hP1 hD1 hS1
        refine lv_aload_n hx hb dX3_move_57 rfl (lv_at hl 1 rfl) ?_
        refine lv_iload_n hx hb dX3_move_58 rfl (lv_at hl 0 rfl) ?_
        refine va_put (D := G) (ci := 3) (v := .int (nI b9)) (ty := .int) (C := RX3) (T := TX3) (N := 13) hx hb hts iX3_move_X3 tyX3 tyX3_ok nmX3 hown hK hP hD hS 0 rfl rfl 1 (by decide) (hts (.fieldLink RX3 33 "GhostPantryLaw$Sim" "border" "I") (by decide +kernel)) (fun _ h9 => h9) rfl (by decide +kernel) rfl rfl (Nat.le_of_ble_eq_true rfl) dX3_move_59 (fun H_5 locs hP1 hD1 hS1 => ?_)
        clear hP hD hS
        have hP : va_P G vwCl [(sm, .inr (3, [.int (nI rc), .int (nI b9), .ref u1, .ref u2, .ref u3, .ref u4, .ref u5, .ref u6, .int (nI ck), .int nA, .int nH, .int nP, .int (nM + (nI (dist bo b9)))])), (u1, .inl (cI, 30, .inl v1)), (u2, .inl (cI, 30, .inl v2)), (u3, .inl (cI, 30, .inl v3)), (u5, .inl (cI, 30, .inl v5)), (u6, .inl (cI, 30, .inl v6))] H_5 := hP1
        have hD : va_D A [(sm, .inr (3, [.int (nI rc), .int (nI b9), .ref u1, .ref u2, .ref u3, .ref u4, .ref u5, .ref u6, .int (nI ck), .int nA, .int nH, .int nP, .int (nM + (nI (dist bo b9)))])), (u1, .inl (cI, 30, .inl v1)), (u2, .inl (cI, 30, .inl v2)), (u3, .inl (cI, 30, .inl v3)), (u5, .inl (cI, 30, .inl v5)), (u6, .inl (cI, 30, .inl v6))] := hD1
        have hS := hS1
        clear hP1 hD1 hS1
        have hP9 := hP.sub (ws' := [(sm, .inr (3, [.int (nI rc), .int (nI b9), .ref u1, .ref u2, .ref u3, .ref u4, .ref u5, .ref u6, .int (nI ck), .int nA, .int nH, .int nP, .int (nM + (nI (dist bo b9)))])), (u1, .inl (cI, 30, .inl v1)), (u2, .inl (cI, 30, .inl v2)), (u3, .inl (cI, 30, .inl v3)), (u5, .inl (cI, 30, .inl v5)), (u6, .inl (cI, 30, .inl v6))]) [0, 1, 2, 3, 4, 5] rfl
        have hD9 := hD.sub (ws' := [(sm, .inr (3, [.int (nI rc), .int (nI b9), .ref u1, .ref u2, .ref u3, .ref u4, .ref u5, .ref u6, .int (nI ck), .int nA, .int nH, .int nP, .int (nM + (nI (dist bo b9)))])), (u1, .inl (cI, 30, .inl v1)), (u2, .inl (cI, 30, .inl v2)), (u3, .inl (cI, 30, .inl v3)), (u5, .inl (cI, 30, .inl v5)), (u6, .inl (cI, 30, .inl v6))]) [0, 1, 2, 3, 4, 5] (by decide) rfl
        exact W.vret hx hb hr (fun t ht hW => ⟨⟨(), rfl, trivial, g_at hP9 hK hD9 ht hW⟩, hS.F ht⟩) hS.2.2 dX3_move_62
      · refine lv_iload_n hx hb dX3_move_38 rfl (lv_at hl 0 rfl) ?_
        refine lv_aload_n hx hb dX3_move_39 rfl (lv_at hl 1 rfl) ?_
        refine va_get (D := G) (ci := 3) (v := .int (nI bo)) (C := RX3) (T := TX3) (N := 13) hx hb hts iX3_move_X3 hown hK hP 0 rfl rfl 1 (by decide) (hts (.fieldLink RX3 33 "GhostPantryLaw$Sim" "border" "I") (by decide +kernel)) (fun _ h9 => h9) rfl dX3_move_40 ?_
        refine g_isub hx hb dX3_move_43 (by omega) ?_
        refine lv_goto (tgt := 53) hx hb dX3_move_44 (by decide) ?_
        refine g_top (y := nI (dist bo b9)) (congrArg nI (show b9 - bo = dist bo b9 by unfold dist; omega)) ?_
        refine lv_iadd hx hb dX3_move_53 ?_
        refine va_put (D := G) (ci := 3) (v := .int (nM + (nI (dist bo b9)))) (ty := .int) (C := RX3) (T := TX3) (N := 13) hx hb hts iX3_move_X3 tyX3 tyX3_ok nmX3 hown hK hP hD hS 0 rfl rfl 12 (by decide) (hts (.fieldLink RX3 53 "GhostPantryLaw$Sim" "steps" "I") (by decide +kernel)) (fun _ h9 => h9) rfl (by decide +kernel) rfl rfl (Nat.le_of_ble_eq_true rfl) dX3_move_54 (fun H_6 locs hP1 hD1 hS1 => ?_)
        clear hP hD hS
        have hP : va_P G vwCl [(sm, .inr (3, [.int (nI rc), .int (nI bo), .ref u1, .ref u2, .ref u3, .ref u4, .ref u5, .ref u6, .int (nI ck), .int nA, .int nH, .int nP, .int (nM + (nI (dist bo b9)))])), (u1, .inl (cI, 30, .inl v1)), (u2, .inl (cI, 30, .inl v2)), (u3, .inl (cI, 30, .inl v3)), (u5, .inl (cI, 30, .inl v5)), (u6, .inl (cI, 30, .inl v6))] H_6 := hP1
        have hD : va_D A [(sm, .inr (3, [.int (nI rc), .int (nI bo), .ref u1, .ref u2, .ref u3, .ref u4, .ref u5, .ref u6, .int (nI ck), .int nA, .int nH, .int nP, .int (nM + (nI (dist bo b9)))])), (u1, .inl (cI, 30, .inl v1)), (u2, .inl (cI, 30, .inl v2)), (u3, .inl (cI, 30, .inl v3)), (u5, .inl (cI, 30, .inl v5)), (u6, .inl (cI, 30, .inl v6))] := hD1
        have hS := hS1
        clear hP1 hD1 hS1
        refine lv_aload_n hx hb dX3_move_57 rfl (lv_at hl 1 rfl) ?_
        refine lv_iload_n hx hb dX3_move_58 rfl (lv_at hl 0 rfl) ?_
        refine va_put (D := G) (ci := 3) (v := .int (nI b9)) (ty := .int) (C := RX3) (T := TX3) (N := 13) hx hb hts iX3_move_X3 tyX3 tyX3_ok nmX3 hown hK hP hD hS 0 rfl rfl 1 (by decide) (hts (.fieldLink RX3 33 "GhostPantryLaw$Sim" "border" "I") (by decide +kernel)) (fun _ h9 => h9) rfl (by decide +kernel) rfl rfl (Nat.le_of_ble_eq_true rfl) dX3_move_59 (fun H_7 locs hP1 hD1 hS1 => ?_)
        clear hP hD hS
        have hP : va_P G vwCl [(sm, .inr (3, [.int (nI rc), .int (nI b9), .ref u1, .ref u2, .ref u3, .ref u4, .ref u5, .ref u6, .int (nI ck), .int nA, .int nH, .int nP, .int (nM + (nI (dist bo b9)))])), (u1, .inl (cI, 30, .inl v1)), (u2, .inl (cI, 30, .inl v2)), (u3, .inl (cI, 30, .inl v3)), (u5, .inl (cI, 30, .inl v5)), (u6, .inl (cI, 30, .inl v6))] H_7 := hP1
        have hD : va_D A [(sm, .inr (3, [.int (nI rc), .int (nI b9), .ref u1, .ref u2, .ref u3, .ref u4, .ref u5, .ref u6, .int (nI ck), .int nA, .int nH, .int nP, .int (nM + (nI (dist bo b9)))])), (u1, .inl (cI, 30, .inl v1)), (u2, .inl (cI, 30, .inl v2)), (u3, .inl (cI, 30, .inl v3)), (u5, .inl (cI, 30, .inl v5)), (u6, .inl (cI, 30, .inl v6))] := hD1
        have hS := hS1
        clear hP1 hD1 hS1
        have hP9 := hP.sub (ws' := [(sm, .inr (3, [.int (nI rc), .int (nI b9), .ref u1, .ref u2, .ref u3, .ref u4, .ref u5, .ref u6, .int (nI ck), .int nA, .int nH, .int nP, .int (nM + (nI (dist bo b9)))])), (u1, .inl (cI, 30, .inl v1)), (u2, .inl (cI, 30, .inl v2)), (u3, .inl (cI, 30, .inl v3)), (u5, .inl (cI, 30, .inl v5)), (u6, .inl (cI, 30, .inl v6))]) [0, 1, 2, 3, 4, 5] rfl
        have hD9 := hD.sub (ws' := [(sm, .inr (3, [.int (nI rc), .int (nI b9), .ref u1, .ref u2, .ref u3, .ref u4, .ref u5, .ref u6, .int (nI ck), .int nA, .int nH, .int nP, .int (nM + (nI (dist bo b9)))])), (u1, .inl (cI, 30, .inl v1)), (u2, .inl (cI, 30, .inl v2)), (u3, .inl (cI, 30, .inl v3)), (u5, .inl (cI, 30, .inl v5)), (u6, .inl (cI, 30, .inl v6))]) [0, 1, 2, 3, 4, 5] (by decide) rfl
        exact W.vret hx hb hr (fun t ht hW => ⟨⟨(), rfl, trivial, g_at hP9 hK hD9 ht hW⟩, hS.F ht⟩) hS.2.2 dX3_move_62
    · refine lv_aload_n hx hb dX3_move_16 rfl (lv_at hl 0 rfl) ?_
      refine va_get (D := G) (ci := 3) (v := .int (nI rc)) (C := RX3) (T := TX3) (N := 13) hx hb hts iX3_move_X3 hown hK hP 0 rfl rfl 0 (by decide) (hts (.fieldLink RX3 7 "GhostPantryLaw$Sim" "room" "I") (by decide +kernel)) (fun _ h9 => h9) rfl dX3_move_17 ?_
      refine lv_goto (tgt := 24) hx hb dX3_move_20 (by decide) ?_
      have e24 : (nI rc) = nI b9 := by rw [← hb9]; exact (show clampI rc tv = _ from (if_neg (Int32.not_lt.mpr c_1)).trans (if_pos (Int32.not_le.mp c_2))).symm
      refine g_top (y := nI b9) (e24) ?_
      refine lv_istore_n (lv' := [(2, .int (nI b9)), (0, .ref sm), (1, .int tv)]) hx hb dX3_move_24 rfl hl (by decide) rfl (fun ls hl => ?_)
      refine lv_aload_n hx hb dX3_move_25 rfl (lv_at hl 1 rfl) ?_
      refine lv_dup hx hb dX3_move_26 rfl ?_
      refine va_get (D := G) (ci := 3) (v := .int nM) (C := RX3) (T := TX3) (N := 13) hx hb hts iX3_move_X3 hown hK hP 0 rfl rfl 12 (by decide) (hts (.fieldLink RX3 53 "GhostPantryLaw$Sim" "steps" "I") (by decide +kernel)) (fun _ h9 => h9) rfl dX3_move_27 ?_
      refine lv_iload_n hx hb dX3_move_30 rfl (lv_at hl 0 rfl) ?_
      refine lv_aload_n hx hb dX3_move_31 rfl (lv_at hl 1 rfl) ?_
      refine va_get (D := G) (ci := 3) (v := .int (nI bo)) (C := RX3) (T := TX3) (N := 13) hx hb hts iX3_move_X3 hown hK hP 0 rfl rfl 1 (by decide) (hts (.fieldLink RX3 33 "GhostPantryLaw$Sim" "border" "I") (by decide +kernel)) (fun _ h9 => h9) rfl dX3_move_32 ?_
      refine g_icmp_le (tgt := 47) hx hb dX3_move_35 (by decide) (by omega) (by omega) (fun c_8 => ?_) (fun c_8 => ?_)
      · refine lv_aload_n hx hb dX3_move_47 rfl (lv_at hl 1 rfl) ?_
        refine va_get (D := G) (ci := 3) (v := .int (nI bo)) (C := RX3) (T := TX3) (N := 13) hx hb hts iX3_move_X3 hown hK hP 0 rfl rfl 1 (by decide) (hts (.fieldLink RX3 33 "GhostPantryLaw$Sim" "border" "I") (by decide +kernel)) (fun _ h9 => h9) rfl dX3_move_48 ?_
        refine lv_iload_n hx hb dX3_move_51 rfl (lv_at hl 0 rfl) ?_
        refine g_isub hx hb dX3_move_52 (by omega) ?_
        refine g_top (y := nI (dist bo b9)) (congrArg nI (show bo - b9 = dist bo b9 by unfold dist; omega)) ?_
        refine lv_iadd hx hb dX3_move_53 ?_
        refine va_put (D := G) (ci := 3) (v := .int (nM + (nI (dist bo b9)))) (ty := .int) (C := RX3) (T := TX3) (N := 13) hx hb hts iX3_move_X3 tyX3 tyX3_ok nmX3 hown hK hP hD hS 0 rfl rfl 12 (by decide) (hts (.fieldLink RX3 53 "GhostPantryLaw$Sim" "steps" "I") (by decide +kernel)) (fun _ h9 => h9) rfl (by decide +kernel) rfl rfl (Nat.le_of_ble_eq_true rfl) dX3_move_54 (fun H_9 locs hP1 hD1 hS1 => ?_)
        clear hP hD hS
        have hP : va_P G vwCl [(sm, .inr (3, [.int (nI rc), .int (nI bo), .ref u1, .ref u2, .ref u3, .ref u4, .ref u5, .ref u6, .int (nI ck), .int nA, .int nH, .int nP, .int (nM + (nI (dist bo b9)))])), (u1, .inl (cI, 30, .inl v1)), (u2, .inl (cI, 30, .inl v2)), (u3, .inl (cI, 30, .inl v3)), (u5, .inl (cI, 30, .inl v5)), (u6, .inl (cI, 30, .inl v6))] H_9 := hP1
        have hD : va_D A [(sm, .inr (3, [.int (nI rc), .int (nI bo), .ref u1, .ref u2, .ref u3, .ref u4, .ref u5, .ref u6, .int (nI ck), .int nA, .int nH, .int nP, .int (nM + (nI (dist bo b9)))])), (u1, .inl (cI, 30, .inl v1)), (u2, .inl (cI, 30, .inl v2)), (u3, .inl (cI, 30, .inl v3)), (u5, .inl (cI, 30, .inl v5)), (u6, .inl (cI, 30, .inl v6))] := hD1
        have hS := hS1
        clear hP1 hD1 hS1
        refine lv_aload_n hx hb dX3_move_57 rfl (lv_at hl 1 rfl) ?_
        refine lv_iload_n hx hb dX3_move_58 rfl (lv_at hl 0 rfl) ?_
        refine va_put (D := G) (ci := 3) (v := .int (nI b9)) (ty := .int) (C := RX3) (T := TX3) (N := 13) hx hb hts iX3_move_X3 tyX3 tyX3_ok nmX3 hown hK hP hD hS 0 rfl rfl 1 (by decide) (hts (.fieldLink RX3 33 "GhostPantryLaw$Sim" "border" "I") (by decide +kernel)) (fun _ h9 => h9) rfl (by decide +kernel) rfl rfl (Nat.le_of_ble_eq_true rfl) dX3_move_59 (fun H_10 locs hP1 hD1 hS1 => ?_)
        clear hP hD hS
        have hP : va_P G vwCl [(sm, .inr (3, [.int (nI rc), .int (nI b9), .ref u1, .ref u2, .ref u3, .ref u4, .ref u5, .ref u6, .int (nI ck), .int nA, .int nH, .int nP, .int (nM + (nI (dist bo b9)))])), (u1, .inl (cI, 30, .inl v1)), (u2, .inl (cI, 30, .inl v2)), (u3, .inl (cI, 30, .inl v3)), (u5, .inl (cI, 30, .inl v5)), (u6, .inl (cI, 30, .inl v6))] H_10 := hP1
        have hD : va_D A [(sm, .inr (3, [.int (nI rc), .int (nI b9), .ref u1, .ref u2, .ref u3, .ref u4, .ref u5, .ref u6, .int (nI ck), .int nA, .int nH, .int nP, .int (nM + (nI (dist bo b9)))])), (u1, .inl (cI, 30, .inl v1)), (u2, .inl (cI, 30, .inl v2)), (u3, .inl (cI, 30, .inl v3)), (u5, .inl (cI, 30, .inl v5)), (u6, .inl (cI, 30, .inl v6))] := hD1
        have hS := hS1
        clear hP1 hD1 hS1
        have hP9 := hP.sub (ws' := [(sm, .inr (3, [.int (nI rc), .int (nI b9), .ref u1, .ref u2, .ref u3, .ref u4, .ref u5, .ref u6, .int (nI ck), .int nA, .int nH, .int nP, .int (nM + (nI (dist bo b9)))])), (u1, .inl (cI, 30, .inl v1)), (u2, .inl (cI, 30, .inl v2)), (u3, .inl (cI, 30, .inl v3)), (u5, .inl (cI, 30, .inl v5)), (u6, .inl (cI, 30, .inl v6))]) [0, 1, 2, 3, 4, 5] rfl
        have hD9 := hD.sub (ws' := [(sm, .inr (3, [.int (nI rc), .int (nI b9), .ref u1, .ref u2, .ref u3, .ref u4, .ref u5, .ref u6, .int (nI ck), .int nA, .int nH, .int nP, .int (nM + (nI (dist bo b9)))])), (u1, .inl (cI, 30, .inl v1)), (u2, .inl (cI, 30, .inl v2)), (u3, .inl (cI, 30, .inl v3)), (u5, .inl (cI, 30, .inl v5)), (u6, .inl (cI, 30, .inl v6))]) [0, 1, 2, 3, 4, 5] (by decide) rfl
        exact W.vret hx hb hr (fun t ht hW => ⟨⟨(), rfl, trivial, g_at hP9 hK hD9 ht hW⟩, hS.F ht⟩) hS.2.2 dX3_move_62
      · refine lv_iload_n hx hb dX3_move_38 rfl (lv_at hl 0 rfl) ?_
        refine lv_aload_n hx hb dX3_move_39 rfl (lv_at hl 1 rfl) ?_
        refine va_get (D := G) (ci := 3) (v := .int (nI bo)) (C := RX3) (T := TX3) (N := 13) hx hb hts iX3_move_X3 hown hK hP 0 rfl rfl 1 (by decide) (hts (.fieldLink RX3 33 "GhostPantryLaw$Sim" "border" "I") (by decide +kernel)) (fun _ h9 => h9) rfl dX3_move_40 ?_
        refine g_isub hx hb dX3_move_43 (by omega) ?_
        refine lv_goto (tgt := 53) hx hb dX3_move_44 (by decide) ?_
        refine g_top (y := nI (dist bo b9)) (congrArg nI (show b9 - bo = dist bo b9 by unfold dist; omega)) ?_
        refine lv_iadd hx hb dX3_move_53 ?_
        refine va_put (D := G) (ci := 3) (v := .int (nM + (nI (dist bo b9)))) (ty := .int) (C := RX3) (T := TX3) (N := 13) hx hb hts iX3_move_X3 tyX3 tyX3_ok nmX3 hown hK hP hD hS 0 rfl rfl 12 (by decide) (hts (.fieldLink RX3 53 "GhostPantryLaw$Sim" "steps" "I") (by decide +kernel)) (fun _ h9 => h9) rfl (by decide +kernel) rfl rfl (Nat.le_of_ble_eq_true rfl) dX3_move_54 (fun H_11 locs hP1 hD1 hS1 => ?_)
        clear hP hD hS
        have hP : va_P G vwCl [(sm, .inr (3, [.int (nI rc), .int (nI bo), .ref u1, .ref u2, .ref u3, .ref u4, .ref u5, .ref u6, .int (nI ck), .int nA, .int nH, .int nP, .int (nM + (nI (dist bo b9)))])), (u1, .inl (cI, 30, .inl v1)), (u2, .inl (cI, 30, .inl v2)), (u3, .inl (cI, 30, .inl v3)), (u5, .inl (cI, 30, .inl v5)), (u6, .inl (cI, 30, .inl v6))] H_11 := hP1
        have hD : va_D A [(sm, .inr (3, [.int (nI rc), .int (nI bo), .ref u1, .ref u2, .ref u3, .ref u4, .ref u5, .ref u6, .int (nI ck), .int nA, .int nH, .int nP, .int (nM + (nI (dist bo b9)))])), (u1, .inl (cI, 30, .inl v1)), (u2, .inl (cI, 30, .inl v2)), (u3, .inl (cI, 30, .inl v3)), (u5, .inl (cI, 30, .inl v5)), (u6, .inl (cI, 30, .inl v6))] := hD1
        have hS := hS1
        clear hP1 hD1 hS1
        refine lv_aload_n hx hb dX3_move_57 rfl (lv_at hl 1 rfl) ?_
        refine lv_iload_n hx hb dX3_move_58 rfl (lv_at hl 0 rfl) ?_
        refine va_put (D := G) (ci := 3) (v := .int (nI b9)) (ty := .int) (C := RX3) (T := TX3) (N := 13) hx hb hts iX3_move_X3 tyX3 tyX3_ok nmX3 hown hK hP hD hS 0 rfl rfl 1 (by decide) (hts (.fieldLink RX3 33 "GhostPantryLaw$Sim" "border" "I") (by decide +kernel)) (fun _ h9 => h9) rfl (by decide +kernel) rfl rfl (Nat.le_of_ble_eq_true rfl) dX3_move_59 (fun H_12 locs hP1 hD1 hS1 => ?_)
        clear hP hD hS
        have hP : va_P G vwCl [(sm, .inr (3, [.int (nI rc), .int (nI b9), .ref u1, .ref u2, .ref u3, .ref u4, .ref u5, .ref u6, .int (nI ck), .int nA, .int nH, .int nP, .int (nM + (nI (dist bo b9)))])), (u1, .inl (cI, 30, .inl v1)), (u2, .inl (cI, 30, .inl v2)), (u3, .inl (cI, 30, .inl v3)), (u5, .inl (cI, 30, .inl v5)), (u6, .inl (cI, 30, .inl v6))] H_12 := hP1
        have hD : va_D A [(sm, .inr (3, [.int (nI rc), .int (nI b9), .ref u1, .ref u2, .ref u3, .ref u4, .ref u5, .ref u6, .int (nI ck), .int nA, .int nH, .int nP, .int (nM + (nI (dist bo b9)))])), (u1, .inl (cI, 30, .inl v1)), (u2, .inl (cI, 30, .inl v2)), (u3, .inl (cI, 30, .inl v3)), (u5, .inl (cI, 30, .inl v5)), (u6, .inl (cI, 30, .inl v6))] := hD1
        have hS := hS1
        clear hP1 hD1 hS1
        have hP9 := hP.sub (ws' := [(sm, .inr (3, [.int (nI rc), .int (nI b9), .ref u1, .ref u2, .ref u3, .ref u4, .ref u5, .ref u6, .int (nI ck), .int nA, .int nH, .int nP, .int (nM + (nI (dist bo b9)))])), (u1, .inl (cI, 30, .inl v1)), (u2, .inl (cI, 30, .inl v2)), (u3, .inl (cI, 30, .inl v3)), (u5, .inl (cI, 30, .inl v5)), (u6, .inl (cI, 30, .inl v6))]) [0, 1, 2, 3, 4, 5] rfl
        have hD9 := hD.sub (ws' := [(sm, .inr (3, [.int (nI rc), .int (nI b9), .ref u1, .ref u2, .ref u3, .ref u4, .ref u5, .ref u6, .int (nI ck), .int nA, .int nH, .int nP, .int (nM + (nI (dist bo b9)))])), (u1, .inl (cI, 30, .inl v1)), (u2, .inl (cI, 30, .inl v2)), (u3, .inl (cI, 30, .inl v3)), (u5, .inl (cI, 30, .inl v5)), (u6, .inl (cI, 30, .inl v6))]) [0, 1, 2, 3, 4, 5] (by decide) rfl
        exact W.vret hx hb hr (fun t ht hW => ⟨⟨(), rfl, trivial, g_at hP9 hK hD9 ht hW⟩, hS.F ht⟩) hS.2.2 dX3_move_62
  · refine lv_iconst (v := (nI 0)) hx hb dX3_move_4 (by decide +kernel) ?_
    refine lv_goto (tgt := 24) hx hb dX3_move_5 (by decide) ?_
    have e24 : (nI 0) = nI b9 := by rw [← hb9]; exact (show clampI rc tv = _ from if_pos (Int32.not_le.mp c_1)).symm
    refine g_top (y := nI b9) (e24) ?_
    refine lv_istore_n (lv' := [(2, .int (nI b9)), (0, .ref sm), (1, .int tv)]) hx hb dX3_move_24 rfl hl (by decide) rfl (fun ls hl => ?_)
    refine lv_aload_n hx hb dX3_move_25 rfl (lv_at hl 1 rfl) ?_
    refine lv_dup hx hb dX3_move_26 rfl ?_
    refine va_get (D := G) (ci := 3) (v := .int nM) (C := RX3) (T := TX3) (N := 13) hx hb hts iX3_move_X3 hown hK hP 0 rfl rfl 12 (by decide) (hts (.fieldLink RX3 53 "GhostPantryLaw$Sim" "steps" "I") (by decide +kernel)) (fun _ h9 => h9) rfl dX3_move_27 ?_
    refine lv_iload_n hx hb dX3_move_30 rfl (lv_at hl 0 rfl) ?_
    refine lv_aload_n hx hb dX3_move_31 rfl (lv_at hl 1 rfl) ?_
    refine va_get (D := G) (ci := 3) (v := .int (nI bo)) (C := RX3) (T := TX3) (N := 13) hx hb hts iX3_move_X3 hown hK hP 0 rfl rfl 1 (by decide) (hts (.fieldLink RX3 33 "GhostPantryLaw$Sim" "border" "I") (by decide +kernel)) (fun _ h9 => h9) rfl dX3_move_32 ?_
    refine g_icmp_le (tgt := 47) hx hb dX3_move_35 (by decide) (by omega) (by omega) (fun c_13 => ?_) (fun c_13 => ?_)
    · refine lv_aload_n hx hb dX3_move_47 rfl (lv_at hl 1 rfl) ?_
      refine va_get (D := G) (ci := 3) (v := .int (nI bo)) (C := RX3) (T := TX3) (N := 13) hx hb hts iX3_move_X3 hown hK hP 0 rfl rfl 1 (by decide) (hts (.fieldLink RX3 33 "GhostPantryLaw$Sim" "border" "I") (by decide +kernel)) (fun _ h9 => h9) rfl dX3_move_48 ?_
      refine lv_iload_n hx hb dX3_move_51 rfl (lv_at hl 0 rfl) ?_
      refine g_isub hx hb dX3_move_52 (by omega) ?_
      refine g_top (y := nI (dist bo b9)) (congrArg nI (show bo - b9 = dist bo b9 by unfold dist; omega)) ?_
      refine lv_iadd hx hb dX3_move_53 ?_
      refine va_put (D := G) (ci := 3) (v := .int (nM + (nI (dist bo b9)))) (ty := .int) (C := RX3) (T := TX3) (N := 13) hx hb hts iX3_move_X3 tyX3 tyX3_ok nmX3 hown hK hP hD hS 0 rfl rfl 12 (by decide) (hts (.fieldLink RX3 53 "GhostPantryLaw$Sim" "steps" "I") (by decide +kernel)) (fun _ h9 => h9) rfl (by decide +kernel) rfl rfl (Nat.le_of_ble_eq_true rfl) dX3_move_54 (fun H_14 locs hP1 hD1 hS1 => ?_)
      clear hP hD hS
      have hP : va_P G vwCl [(sm, .inr (3, [.int (nI rc), .int (nI bo), .ref u1, .ref u2, .ref u3, .ref u4, .ref u5, .ref u6, .int (nI ck), .int nA, .int nH, .int nP, .int (nM + (nI (dist bo b9)))])), (u1, .inl (cI, 30, .inl v1)), (u2, .inl (cI, 30, .inl v2)), (u3, .inl (cI, 30, .inl v3)), (u5, .inl (cI, 30, .inl v5)), (u6, .inl (cI, 30, .inl v6))] H_14 := hP1
      have hD : va_D A [(sm, .inr (3, [.int (nI rc), .int (nI bo), .ref u1, .ref u2, .ref u3, .ref u4, .ref u5, .ref u6, .int (nI ck), .int nA, .int nH, .int nP, .int (nM + (nI (dist bo b9)))])), (u1, .inl (cI, 30, .inl v1)), (u2, .inl (cI, 30, .inl v2)), (u3, .inl (cI, 30, .inl v3)), (u5, .inl (cI, 30, .inl v5)), (u6, .inl (cI, 30, .inl v6))] := hD1
      have hS := hS1
      clear hP1 hD1 hS1
      refine lv_aload_n hx hb dX3_move_57 rfl (lv_at hl 1 rfl) ?_
      refine lv_iload_n hx hb dX3_move_58 rfl (lv_at hl 0 rfl) ?_
      refine va_put (D := G) (ci := 3) (v := .int (nI b9)) (ty := .int) (C := RX3) (T := TX3) (N := 13) hx hb hts iX3_move_X3 tyX3 tyX3_ok nmX3 hown hK hP hD hS 0 rfl rfl 1 (by decide) (hts (.fieldLink RX3 33 "GhostPantryLaw$Sim" "border" "I") (by decide +kernel)) (fun _ h9 => h9) rfl (by decide +kernel) rfl rfl (Nat.le_of_ble_eq_true rfl) dX3_move_59 (fun H_15 locs hP1 hD1 hS1 => ?_)
      clear hP hD hS
      have hP : va_P G vwCl [(sm, .inr (3, [.int (nI rc), .int (nI b9), .ref u1, .ref u2, .ref u3, .ref u4, .ref u5, .ref u6, .int (nI ck), .int nA, .int nH, .int nP, .int (nM + (nI (dist bo b9)))])), (u1, .inl (cI, 30, .inl v1)), (u2, .inl (cI, 30, .inl v2)), (u3, .inl (cI, 30, .inl v3)), (u5, .inl (cI, 30, .inl v5)), (u6, .inl (cI, 30, .inl v6))] H_15 := hP1
      have hD : va_D A [(sm, .inr (3, [.int (nI rc), .int (nI b9), .ref u1, .ref u2, .ref u3, .ref u4, .ref u5, .ref u6, .int (nI ck), .int nA, .int nH, .int nP, .int (nM + (nI (dist bo b9)))])), (u1, .inl (cI, 30, .inl v1)), (u2, .inl (cI, 30, .inl v2)), (u3, .inl (cI, 30, .inl v3)), (u5, .inl (cI, 30, .inl v5)), (u6, .inl (cI, 30, .inl v6))] := hD1
      have hS := hS1
      clear hP1 hD1 hS1
      have hP9 := hP.sub (ws' := [(sm, .inr (3, [.int (nI rc), .int (nI b9), .ref u1, .ref u2, .ref u3, .ref u4, .ref u5, .ref u6, .int (nI ck), .int nA, .int nH, .int nP, .int (nM + (nI (dist bo b9)))])), (u1, .inl (cI, 30, .inl v1)), (u2, .inl (cI, 30, .inl v2)), (u3, .inl (cI, 30, .inl v3)), (u5, .inl (cI, 30, .inl v5)), (u6, .inl (cI, 30, .inl v6))]) [0, 1, 2, 3, 4, 5] rfl
      have hD9 := hD.sub (ws' := [(sm, .inr (3, [.int (nI rc), .int (nI b9), .ref u1, .ref u2, .ref u3, .ref u4, .ref u5, .ref u6, .int (nI ck), .int nA, .int nH, .int nP, .int (nM + (nI (dist bo b9)))])), (u1, .inl (cI, 30, .inl v1)), (u2, .inl (cI, 30, .inl v2)), (u3, .inl (cI, 30, .inl v3)), (u5, .inl (cI, 30, .inl v5)), (u6, .inl (cI, 30, .inl v6))]) [0, 1, 2, 3, 4, 5] (by decide) rfl
      exact W.vret hx hb hr (fun t ht hW => ⟨⟨(), rfl, trivial, g_at hP9 hK hD9 ht hW⟩, hS.F ht⟩) hS.2.2 dX3_move_62
    · refine lv_iload_n hx hb dX3_move_38 rfl (lv_at hl 0 rfl) ?_
      refine lv_aload_n hx hb dX3_move_39 rfl (lv_at hl 1 rfl) ?_
      refine va_get (D := G) (ci := 3) (v := .int (nI bo)) (C := RX3) (T := TX3) (N := 13) hx hb hts iX3_move_X3 hown hK hP 0 rfl rfl 1 (by decide) (hts (.fieldLink RX3 33 "GhostPantryLaw$Sim" "border" "I") (by decide +kernel)) (fun _ h9 => h9) rfl dX3_move_40 ?_
      refine g_isub hx hb dX3_move_43 (by omega) ?_
      refine lv_goto (tgt := 53) hx hb dX3_move_44 (by decide) ?_
      refine g_top (y := nI (dist bo b9)) (congrArg nI (show b9 - bo = dist bo b9 by unfold dist; omega)) ?_
      refine lv_iadd hx hb dX3_move_53 ?_
      refine va_put (D := G) (ci := 3) (v := .int (nM + (nI (dist bo b9)))) (ty := .int) (C := RX3) (T := TX3) (N := 13) hx hb hts iX3_move_X3 tyX3 tyX3_ok nmX3 hown hK hP hD hS 0 rfl rfl 12 (by decide) (hts (.fieldLink RX3 53 "GhostPantryLaw$Sim" "steps" "I") (by decide +kernel)) (fun _ h9 => h9) rfl (by decide +kernel) rfl rfl (Nat.le_of_ble_eq_true rfl) dX3_move_54 (fun H_16 locs hP1 hD1 hS1 => ?_)
      clear hP hD hS
      have hP : va_P G vwCl [(sm, .inr (3, [.int (nI rc), .int (nI bo), .ref u1, .ref u2, .ref u3, .ref u4, .ref u5, .ref u6, .int (nI ck), .int nA, .int nH, .int nP, .int (nM + (nI (dist bo b9)))])), (u1, .inl (cI, 30, .inl v1)), (u2, .inl (cI, 30, .inl v2)), (u3, .inl (cI, 30, .inl v3)), (u5, .inl (cI, 30, .inl v5)), (u6, .inl (cI, 30, .inl v6))] H_16 := hP1
      have hD : va_D A [(sm, .inr (3, [.int (nI rc), .int (nI bo), .ref u1, .ref u2, .ref u3, .ref u4, .ref u5, .ref u6, .int (nI ck), .int nA, .int nH, .int nP, .int (nM + (nI (dist bo b9)))])), (u1, .inl (cI, 30, .inl v1)), (u2, .inl (cI, 30, .inl v2)), (u3, .inl (cI, 30, .inl v3)), (u5, .inl (cI, 30, .inl v5)), (u6, .inl (cI, 30, .inl v6))] := hD1
      have hS := hS1
      clear hP1 hD1 hS1
      refine lv_aload_n hx hb dX3_move_57 rfl (lv_at hl 1 rfl) ?_
      refine lv_iload_n hx hb dX3_move_58 rfl (lv_at hl 0 rfl) ?_
      refine va_put (D := G) (ci := 3) (v := .int (nI b9)) (ty := .int) (C := RX3) (T := TX3) (N := 13) hx hb hts iX3_move_X3 tyX3 tyX3_ok nmX3 hown hK hP hD hS 0 rfl rfl 1 (by decide) (hts (.fieldLink RX3 33 "GhostPantryLaw$Sim" "border" "I") (by decide +kernel)) (fun _ h9 => h9) rfl (by decide +kernel) rfl rfl (Nat.le_of_ble_eq_true rfl) dX3_move_59 (fun H_17 locs hP1 hD1 hS1 => ?_)
      clear hP hD hS
      have hP : va_P G vwCl [(sm, .inr (3, [.int (nI rc), .int (nI b9), .ref u1, .ref u2, .ref u3, .ref u4, .ref u5, .ref u6, .int (nI ck), .int nA, .int nH, .int nP, .int (nM + (nI (dist bo b9)))])), (u1, .inl (cI, 30, .inl v1)), (u2, .inl (cI, 30, .inl v2)), (u3, .inl (cI, 30, .inl v3)), (u5, .inl (cI, 30, .inl v5)), (u6, .inl (cI, 30, .inl v6))] H_17 := hP1
      have hD : va_D A [(sm, .inr (3, [.int (nI rc), .int (nI b9), .ref u1, .ref u2, .ref u3, .ref u4, .ref u5, .ref u6, .int (nI ck), .int nA, .int nH, .int nP, .int (nM + (nI (dist bo b9)))])), (u1, .inl (cI, 30, .inl v1)), (u2, .inl (cI, 30, .inl v2)), (u3, .inl (cI, 30, .inl v3)), (u5, .inl (cI, 30, .inl v5)), (u6, .inl (cI, 30, .inl v6))] := hD1
      have hS := hS1
      clear hP1 hD1 hS1
      have hP9 := hP.sub (ws' := [(sm, .inr (3, [.int (nI rc), .int (nI b9), .ref u1, .ref u2, .ref u3, .ref u4, .ref u5, .ref u6, .int (nI ck), .int nA, .int nH, .int nP, .int (nM + (nI (dist bo b9)))])), (u1, .inl (cI, 30, .inl v1)), (u2, .inl (cI, 30, .inl v2)), (u3, .inl (cI, 30, .inl v3)), (u5, .inl (cI, 30, .inl v5)), (u6, .inl (cI, 30, .inl v6))]) [0, 1, 2, 3, 4, 5] rfl
      have hD9 := hD.sub (ws' := [(sm, .inr (3, [.int (nI rc), .int (nI b9), .ref u1, .ref u2, .ref u3, .ref u4, .ref u5, .ref u6, .int (nI ck), .int nA, .int nH, .int nP, .int (nM + (nI (dist bo b9)))])), (u1, .inl (cI, 30, .inl v1)), (u2, .inl (cI, 30, .inl v2)), (u3, .inl (cI, 30, .inl v3)), (u5, .inl (cI, 30, .inl v5)), (u6, .inl (cI, 30, .inl v6))]) [0, 1, 2, 3, 4, 5] (by decide) rfl
      exact W.vret hx hb hr (fun t ht hW => ⟨⟨(), rfl, trivial, g_at hP9 hK hD9 ht hW⟩, hS.F ht⟩) hS.2.2 dX3_move_62
