set_option maxRecDepth 20000 in
theorem iX0_length_X0 : ∀ w ∈ wsX00, w ∈ wsX0_length := by decide +kernel
set_option maxHeartbeats 4000000 in
set_option maxRecDepth 100000 in
theorem c_X0_length (l : Launch) (G : va_G) (cI : ClassId) (r j : Nat) (f : Nat → Int32) (L : List Int32) (hR : Rw f L) (hn : L.length ≤ 30) (sz : Nat) : Met l yX0_length wsX0_length ({ frames := 0, cells := 0, slots := 0, locals := 0 }) (va_Pc [.ref r] (gpre G [(cI, .int)] [(r, .inr (0, [.ref j, .int (nI L.length)])), (j, .inl (cI, 30, .inl f))] sz)) (va_Qi (fun (z : Int32) (_ : Unit) => z = nI L.length) (fun (_ : Unit) t => gat G [(cI, .int)] (va_A [(r, .inr (0, [.ref j, .int (nI L.length)])), (j, .inl (cI, 30, .inl f))] sz) [(r, .inr (0, [.ref j, .int (nI L.length)])), (j, .inl (cI, 30, .inl f))] t) (va_A [(r, .inr (0, [.ref j, .int (nI L.length)])), (j, .inl (cI, 30, .inl f))] sz)) 0 0 (va_A [(r, .inr (0, [.ref j, .int (nI L.length)])), (j, .inl (cI, 30, .inl f))] sz) := by
  refine Met.ofW (cc := cX0_length) (maxL := 1) (ret := (some .int)) (by decide) rfl ?_
  intro p e s m args below meth c s₁ B hml hv
  obtain ⟨rfl, hsz, hP, hK, hD0⟩ := hv
  have hx := B.exec
  have hb := B.bytes
  have hr := B.returns
  have hts := atoms_spec (ws := wsX0_length) B.pre
  have hown : s.vm.findClass RX0 = some m.cls := findClass_of_methodNamed B.named
  have hlocks := B.notSynchronized
  subst hsz
  have hD := hD0.self (sz := s.heap.size)
  clear hD0
  generalize hAe : va_A [(r, .inr (0, [.ref j, .int (nI L.length)])), (j, .inl (cI, 30, .inl f))] s.heap.size = A at hD ⊢
  have hA : ∀ q : Nat, s.heap.size ≤ q → A q := fun q h => by rw [← hAe]; exact Or.inr h
  have hS : va_S A s.heap s.heap [] := va_S.rf
  have hP : va_P G vwCl [(r, .inr (0, [.ref j, .int (nI L.length)])), (j, .inl (cI, 30, .inl f))] s.heap := hP
  have hl := lv_entry ([.ref r]) (n := 1) (Nat.le_of_ble_eq_true rfl)
  rw [lg_entry_eq]
  generalize (lg_sl ([.ref r]) ++ List.replicate (1 - (lg_sl ([.ref r])).length) Slot.unset).toArray = ls at hl ⊢
  have hl : lv_has ls 1 [(0, .ref r)] := hl
  refine lv_aload_n hx hb dX0_length_0 rfl (lv_at hl 0 rfl) ?_
  refine va_get (D := G) (ci := 0) (v := .int (nI L.length)) (C := RX0) (T := TX0) (N := 2) hx hb hts iX0_length_X0 hown hK hP 0 rfl rfl 1 (by decide) (hts (.fieldLink RX0 15 "GhostPantry$Row" "size" "I") (by decide +kernel)) (fun _ h9 => h9) rfl dX0_length_1 ?_
  have hP9 := hP.sub (ws' := [(r, .inr (0, [.ref j, .int (nI L.length)])), (j, .inl (cI, 30, .inl f))]) [0, 1] rfl
  have hD9 := hD.sub (ws' := [(r, .inr (0, [.ref j, .int (nI L.length)])), (j, .inl (cI, 30, .inl f))]) [0, 1] (by decide) rfl
  exact W.iret (v := (nI L.length)) hx hb hr (fun t ht hW => ⟨⟨(nI L.length), (), rfl, rfl, g_at hP9 hK hD9 ht hW⟩, hS.F ht⟩) hS.2.2 dX0_length_4

set_option maxRecDepth 20000 in
theorem iX0_jarAt_X0 : ∀ w ∈ wsX00, w ∈ wsX0_jarAt := by decide +kernel
set_option maxHeartbeats 4000000 in
set_option maxRecDepth 100000 in
theorem c_X0_jarAt (l : Launch) (G : va_G) (cI : ClassId) (r j : Nat) (f : Nat → Int32) (L : List Int32) (hR : Rw f L) (hn : L.length ≤ 30) (pl : Nat) (hp : pl < L.length) (sz : Nat) : Met l yX0_jarAt wsX0_jarAt ({ frames := 0, cells := 0, slots := 0, locals := 0 }) (va_Pc [.ref r, .int (nI pl)] (gpre G [(cI, .int)] [(r, .inr (0, [.ref j, .int (nI L.length)])), (j, .inl (cI, 30, .inl f))] sz)) (va_Qi (fun (z : Int32) (_ : Unit) => z = L.getD pl 0) (fun (_ : Unit) t => gat G [(cI, .int)] (va_A [(r, .inr (0, [.ref j, .int (nI L.length)])), (j, .inl (cI, 30, .inl f))] sz) [(r, .inr (0, [.ref j, .int (nI L.length)])), (j, .inl (cI, 30, .inl f))] t) (va_A [(r, .inr (0, [.ref j, .int (nI L.length)])), (j, .inl (cI, 30, .inl f))] sz)) 0 0 (va_A [(r, .inr (0, [.ref j, .int (nI L.length)])), (j, .inl (cI, 30, .inl f))] sz) := by
  refine Met.ofW (cc := cX0_jarAt) (maxL := 2) (ret := (some .int)) (by decide) rfl ?_
  intro p e s m args below meth c s₁ B hml hv
  obtain ⟨rfl, hsz, hP, hK, hD0⟩ := hv
  have hx := B.exec
  have hb := B.bytes
  have hr := B.returns
  have hts := atoms_spec (ws := wsX0_jarAt) B.pre
  have hown : s.vm.findClass RX0 = some m.cls := findClass_of_methodNamed B.named
  have hlocks := B.notSynchronized
  subst hsz
  have hD := hD0.self (sz := s.heap.size)
  clear hD0
  generalize hAe : va_A [(r, .inr (0, [.ref j, .int (nI L.length)])), (j, .inl (cI, 30, .inl f))] s.heap.size = A at hD ⊢
  have hA : ∀ q : Nat, s.heap.size ≤ q → A q := fun q h => by rw [← hAe]; exact Or.inr h
  have hS : va_S A s.heap s.heap [] := va_S.rf
  have hP : va_P G vwCl [(r, .inr (0, [.ref j, .int (nI L.length)])), (j, .inl (cI, 30, .inl f))] s.heap := hP
  have hl := lv_entry ([.ref r, .int (nI pl)]) (n := 2) (Nat.le_of_ble_eq_true rfl)
  rw [lg_entry_eq]
  generalize (lg_sl ([.ref r, .int (nI pl)]) ++ List.replicate (2 - (lg_sl ([.ref r, .int (nI pl)])).length) Slot.unset).toArray = ls at hl ⊢
  have hl : lv_has ls 2 [(0, .ref r), (1, .int (nI pl))] := hl
  refine lv_iload_n hx hb dX0_jarAt_0 rfl (lv_at hl 1 rfl) ?_
  refine g_if_lt (tgt := 21) hx hb dX0_jarAt_1 (by decide) (by omega) ?_
  refine lv_iload_n hx hb dX0_jarAt_4 rfl (lv_at hl 1 rfl) ?_
  refine lv_aload_n hx hb dX0_jarAt_5 rfl (lv_at hl 0 rfl) ?_
  refine va_get (D := G) (ci := 0) (v := .int (nI L.length)) (C := RX0) (T := TX0) (N := 2) hx hb hts iX0_jarAt_X0 hown hK hP 0 rfl rfl 1 (by decide) (hts (.fieldLink RX0 15 "GhostPantry$Row" "size" "I") (by decide +kernel)) (fun _ h9 => h9) rfl dX0_jarAt_6 ?_
  refine g_icmp_ge (tgt := 21) hx hb dX0_jarAt_9 (by decide) (by omega) (by omega) (fun c_2 => False.elim (by omega)) (fun c_2 => ?_)
  refine lv_iload_n hx hb dX0_jarAt_12 rfl (lv_at hl 1 rfl) ?_
  refine lv_aload_n hx hb dX0_jarAt_13 rfl (lv_at hl 0 rfl) ?_
  refine va_get (D := G) (ci := 0) (v := .ref j) (C := RX0) (T := TX0) (N := 2) hx hb hts iX0_jarAt_X0 hown hK hP 0 rfl rfl 0 (by decide) (hts (.fieldLink RX0 9 "GhostPantry$Row" "jars" "[I") (by decide +kernel)) (fun _ h9 => h9) rfl dX0_jarAt_14 ?_
  refine va_alen hx hb hK hP 1 0 rfl rfl (v := (nI 30)) rfl dX0_jarAt_17 ?_
  refine g_icmp_lt (tgt := 23) hx hb dX0_jarAt_18 (by decide) (by omega) (by decide) (fun c_3 => ?_) (fun c_3 => False.elim (by omega))
  refine lv_aload_n hx hb dX0_jarAt_23 rfl (lv_at hl 0 rfl) ?_
  refine va_get (D := G) (ci := 0) (v := .ref j) (C := RX0) (T := TX0) (N := 2) hx hb hts iX0_jarAt_X0 hown hK hP 0 rfl rfl 0 (by decide) (hts (.fieldLink RX0 9 "GhostPantry$Row" "jars" "[I") (by decide +kernel)) (fun _ h9 => h9) rfl dX0_jarAt_24 ?_
  refine lv_iload_n hx hb dX0_jarAt_27 rfl (lv_at hl 1 rfl) ?_
  refine g_iald hx hb hK hP 1 0 rfl rfl (i := pl) (by omega) (by decide) dX0_jarAt_28 (v := (L.getD pl 0)) (hR _ (by omega)) ?_
  have hP9 := hP.sub (ws' := [(r, .inr (0, [.ref j, .int (nI L.length)])), (j, .inl (cI, 30, .inl f))]) [0, 1] rfl
  have hD9 := hD.sub (ws' := [(r, .inr (0, [.ref j, .int (nI L.length)])), (j, .inl (cI, 30, .inl f))]) [0, 1] (by decide) rfl
  exact W.iret (v := (L.getD pl 0)) hx hb hr (fun t ht hW => ⟨⟨(L.getD pl 0), (), rfl, rfl, g_at hP9 hK hD9 ht hW⟩, hS.F ht⟩) hS.2.2 dX0_jarAt_29

set_option maxRecDepth 20000 in
theorem iX0_placeOf_X0 : ∀ w ∈ wsX00, w ∈ wsX0_placeOf := by decide +kernel
set_option maxHeartbeats 4000000 in
set_option maxRecDepth 100000 in
theorem c_X0_placeOf (l : Launch) (G : va_G) (cI : ClassId) (r j : Nat) (f : Nat → Int32) (L : List Int32) (hR : Rw f L) (hn : L.length ≤ 30) (jar : Int32) (sz : Nat) : Met l yX0_placeOf wsX0_placeOf ({ frames := 0, cells := 0, slots := 0, locals := 0 }) (va_Pc [.ref r, .int jar] (gpre G [(cI, .int)] [(r, .inr (0, [.ref j, .int (nI L.length)])), (j, .inl (cI, 30, .inl f))] sz)) (va_Qi (fun (z : Int32) (_ : Unit) => z = pos L jar) (fun (_ : Unit) t => gat G [(cI, .int)] (va_A [(r, .inr (0, [.ref j, .int (nI L.length)])), (j, .inl (cI, 30, .inl f))] sz) [(r, .inr (0, [.ref j, .int (nI L.length)])), (j, .inl (cI, 30, .inl f))] t) (va_A [(r, .inr (0, [.ref j, .int (nI L.length)])), (j, .inl (cI, 30, .inl f))] sz)) 0 0 (va_A [(r, .inr (0, [.ref j, .int (nI L.length)])), (j, .inl (cI, 30, .inl f))] sz) := by
  refine Met.ofW (cc := cX0_placeOf) (maxL := 3) (ret := (some .int)) (by decide) rfl ?_
  intro p e s m args below meth c s₁ B hml hv
  obtain ⟨rfl, hsz, hP, hK, hD0⟩ := hv
  have hx := B.exec
  have hb := B.bytes
  have hr := B.returns
  have hts := atoms_spec (ws := wsX0_placeOf) B.pre
  have hown : s.vm.findClass RX0 = some m.cls := findClass_of_methodNamed B.named
  have hlocks := B.notSynchronized
  subst hsz
  have hD := hD0.self (sz := s.heap.size)
  clear hD0
  generalize hAe : va_A [(r, .inr (0, [.ref j, .int (nI L.length)])), (j, .inl (cI, 30, .inl f))] s.heap.size = A at hD ⊢
  have hA : ∀ q : Nat, s.heap.size ≤ q → A q := fun q h => by rw [← hAe]; exact Or.inr h
  have hS : va_S A s.heap s.heap [] := va_S.rf
  have hP : va_P G vwCl [(r, .inr (0, [.ref j, .int (nI L.length)])), (j, .inl (cI, 30, .inl f))] s.heap := hP
  have hl := lv_entry ([.ref r, .int jar]) (n := 3) (Nat.le_of_ble_eq_true rfl)
  rw [lg_entry_eq]
  generalize (lg_sl ([.ref r, .int jar]) ++ List.replicate (3 - (lg_sl ([.ref r, .int jar])).length) Slot.unset).toArray = ls at hl ⊢
  have hl : lv_has ls 3 [(0, .ref r), (1, .int jar)] := hl
  refine lv_iconst (v := (nI 0)) hx hb dX0_placeOf_0 (by decide +kernel) ?_
  refine lv_istore_n (lv' := [(2, .int (nI 0)), (0, .ref r), (1, .int jar)]) hx hb dX0_placeOf_1 rfl hl (by decide) rfl (fun ls hl => ?_)
  obtain ⟨i, ei⟩ : ∃ i : Nat, i = 0 := ⟨0, rfl⟩
  have hl2 : lv_has ls 3 [(2, .int (nI i)), (0, .ref r), (1, .int jar)] := by rw [ei]; exact hl
  clear hl
  have hl := hl2
  clear hl2
  have hi : i ≤ L.length := by omega
  have hk : ∀ k, k < i → L.getD k 0 ≠ jar := fun k hk => absurd hk (by omega)
  clear ei
  obtain ⟨n, hn9⟩ : ∃ n : Nat, L.length - i < n := ⟨_, Nat.lt_succ_self _⟩
  induction n generalizing i ls with
  | zero => exact absurd hn9 (Nat.not_lt_zero _)
  | succ n ih =>
    refine lv_iload_n hx hb dX0_placeOf_2 rfl (lv_at hl 0 rfl) ?_
    refine lv_aload_n hx hb dX0_placeOf_3 rfl (lv_at hl 1 rfl) ?_
    refine va_get (D := G) (ci := 0) (v := .int (nI L.length)) (C := RX0) (T := TX0) (N := 2) hx hb hts iX0_placeOf_X0 hown hK hP 0 rfl rfl 1 (by decide) (hts (.fieldLink RX0 15 "GhostPantry$Row" "size" "I") (by decide +kernel)) (fun _ h9 => h9) rfl dX0_placeOf_4 ?_
    refine g_icmp_ge (tgt := 37) hx hb dX0_placeOf_7 (by decide) (by omega) (by omega) (fun c_1 => ?_) (fun c_1 => ?_)
    · refine lv_iconst (v := (-1)) hx hb dX0_placeOf_37 (by decide +kernel) ?_
      have hP9 := hP.sub (ws' := [(r, .inr (0, [.ref j, .int (nI L.length)])), (j, .inl (cI, 30, .inl f))]) [0, 1] rfl
      have hD9 := hD.sub (ws' := [(r, .inr (0, [.ref j, .int (nI L.length)])), (j, .inl (cI, 30, .inl f))]) [0, 1] (by decide) rfl
      exact W.iret (v := (-1)) hx hb hr (fun t ht hW => ⟨⟨(-1), (), rfl, (pos_no (fun k hk9 => hk k (by omega))).symm, g_at hP9 hK hD9 ht hW⟩, hS.F ht⟩) hS.2.2 dX0_placeOf_38
    · refine lv_iload_n hx hb dX0_placeOf_10 rfl (lv_at hl 0 rfl) ?_
      refine lv_aload_n hx hb dX0_placeOf_11 rfl (lv_at hl 1 rfl) ?_
      refine va_get (D := G) (ci := 0) (v := .ref j) (C := RX0) (T := TX0) (N := 2) hx hb hts iX0_placeOf_X0 hown hK hP 0 rfl rfl 0 (by decide) (hts (.fieldLink RX0 9 "GhostPantry$Row" "jars" "[I") (by decide +kernel)) (fun _ h9 => h9) rfl dX0_placeOf_12 ?_
      refine va_alen hx hb hK hP 1 0 rfl rfl (v := (nI 30)) rfl dX0_placeOf_15 ?_
      refine g_icmp_ge (tgt := 37) hx hb dX0_placeOf_16 (by decide) (by omega) (by decide) (fun c_2 => False.elim (by omega)) (fun c_2 => ?_)
      refine lv_aload_n hx hb dX0_placeOf_19 rfl (lv_at hl 1 rfl) ?_
      refine va_get (D := G) (ci := 0) (v := .ref j) (C := RX0) (T := TX0) (N := 2) hx hb hts iX0_placeOf_X0 hown hK hP 0 rfl rfl 0 (by decide) (hts (.fieldLink RX0 9 "GhostPantry$Row" "jars" "[I") (by decide +kernel)) (fun _ h9 => h9) rfl dX0_placeOf_20 ?_
      refine lv_iload_n hx hb dX0_placeOf_23 rfl (lv_at hl 0 rfl) ?_
      refine g_iald hx hb hK hP 1 0 rfl rfl (i := i) (by omega) (by decide) dX0_placeOf_24 (v := (L.getD i 0)) (hR _ (by omega)) ?_
      refine lv_iload_n hx hb dX0_placeOf_25 rfl (lv_at hl 2 rfl) ?_
      refine lv_icmp_ne (tgt := 31) hx hb dX0_placeOf_26 (by decide) (fun c_3 => ?_) (fun c_3 => ?_)
      · refine lv_iinc (v := (nI (i + 1))) (lv' := [(2, .int (nI (i + 1))), (0, .ref r), (1, .int jar)]) hx hb dX0_placeOf_31 hl (k := 0) rfl (nI_1 _) (by decide) rfl (fun ls hl => ?_)
        refine lv_goto (tgt := 2) hx hb dX0_placeOf_34 (by decide) ?_
        have hk2 : ∀ k, k < i + 1 → L.getD k 0 ≠ jar := fun k hk9 => by
          rcases Nat.lt_or_ge k i with z | z
          · exact hk k z
          · have e : k = i := by omega
            rw [e]; assumption
        have hl9 := lv_sub (l' := [(2, .int (nI (i + 1))), (0, .ref r), (1, .int jar)]) hl [0, 1, 2] rfl
        first | exact ih ls (i + 1) hl9 (by omega) hk2 (by omega) | exact ih (i + 1) ls hl9 (by omega) hk2 (by omega)
      · refine lv_iload_n hx hb dX0_placeOf_29 rfl (lv_at hl 0 rfl) ?_
        have hP9 := hP.sub (ws' := [(r, .inr (0, [.ref j, .int (nI L.length)])), (j, .inl (cI, 30, .inl f))]) [0, 1] rfl
        have hD9 := hD.sub (ws' := [(r, .inr (0, [.ref j, .int (nI L.length)])), (j, .inl (cI, 30, .inl f))]) [0, 1] (by decide) rfl
        exact W.iret (v := (nI i)) hx hb hr (fun t ht hW => ⟨⟨(nI i), (), rfl, (pos_at (by omega) hk (by assumption)).symm, g_at hP9 hK hD9 ht hW⟩, hS.F ht⟩) hS.2.2 dX0_placeOf_30

set_option maxRecDepth 20000 in
theorem iX0_putFirst_X0 : ∀ w ∈ wsX00, w ∈ wsX0_putFirst := by decide +kernel
set_option maxHeartbeats 4000000 in
set_option maxRecDepth 100000 in
theorem c_X0_putFirst (l : Launch) (G : va_G) (cI : ClassId) (r j : Nat) (f : Nat → Int32) (L : List Int32) (hR : Rw f L) (hn : L.length ≤ 30) (jar : Int32) (h30 : L.length < 30) (sz : Nat) : Met l yX0_putFirst wsX0_putFirst ({ frames := 1, cells := 0, slots := 0, locals := 18 }) (va_Pc [.ref r, .int jar] (gpre G [(cI, .int)] [(r, .inr (0, [.ref j, .int (nI L.length)])), (j, .inl (cI, 30, .inl f))] sz)) (va_Qv (fun (_ : Unit) => True) (fun (_ : Unit) t => ∃ f' : Nat → Int32, Rw f' (jar :: L) ∧ gat G [(cI, .int)] (va_A [(r, .inr (0, [.ref j, .int (nI L.length)])), (j, .inl (cI, 30, .inl f))] sz) [(r, .inr (0, [.ref j, .int (nI ((jar :: L).length))])), (j, .inl (cI, 30, .inl f'))] t) (va_A [(r, .inr (0, [.ref j, .int (nI L.length)])), (j, .inl (cI, 30, .inl f))] sz)) 0 0 (va_A [(r, .inr (0, [.ref j, .int (nI L.length)])), (j, .inl (cI, 30, .inl f))] sz) := by
  refine Met.ofW (cc := cX0_putFirst) (maxL := 2) (ret := none) (by decide) rfl ?_
  intro p e s m args below meth c s₁ B hml hv
  obtain ⟨rfl, hsz, hP, hK, hD0⟩ := hv
  have hx := B.exec
  have hb := B.bytes
  have hr := B.returns
  have hts := atoms_spec (ws := wsX0_putFirst) B.pre
  have hown : s.vm.findClass RX0 = some m.cls := findClass_of_methodNamed B.named
  have hlocks := B.notSynchronized
  subst hsz
  have hD := hD0.self (sz := s.heap.size)
  clear hD0
  generalize hAe : va_A [(r, .inr (0, [.ref j, .int (nI L.length)])), (j, .inl (cI, 30, .inl f))] s.heap.size = A at hD ⊢
  have hA : ∀ q : Nat, s.heap.size ≤ q → A q := fun q h => by rw [← hAe]; exact Or.inr h
  have hS : va_S A s.heap s.heap [] := va_S.rf
  have hP : va_P G vwCl [(r, .inr (0, [.ref j, .int (nI L.length)])), (j, .inl (cI, 30, .inl f))] s.heap := hP
  have hl := lv_entry ([.ref r, .int jar]) (n := 2) (Nat.le_of_ble_eq_true rfl)
  rw [lg_entry_eq]
  generalize (lg_sl ([.ref r, .int jar]) ++ List.replicate (2 - (lg_sl ([.ref r, .int jar])).length) Slot.unset).toArray = ls at hl ⊢
  have hl : lv_has ls 2 [(0, .ref r), (1, .int jar)] := hl
  refine lv_aload_n hx hb dX0_putFirst_0 rfl (lv_at hl 0 rfl) ?_
  refine va_get (D := G) (ci := 0) (v := .int (nI L.length)) (C := RX0) (T := TX0) (N := 2) hx hb hts iX0_putFirst_X0 hown hK hP 0 rfl rfl 1 (by decide) (hts (.fieldLink RX0 15 "GhostPantry$Row" "size" "I") (by decide +kernel)) (fun _ h9 => h9) rfl dX0_putFirst_1 ?_
  refine g_if_lt (tgt := 19) hx hb dX0_putFirst_4 (by decide) (by omega) ?_
  refine lv_aload_n hx hb dX0_putFirst_7 rfl (lv_at hl 0 rfl) ?_
  refine va_get (D := G) (ci := 0) (v := .int (nI L.length)) (C := RX0) (T := TX0) (N := 2) hx hb hts iX0_putFirst_X0 hown hK hP 0 rfl rfl 1 (by decide) (hts (.fieldLink RX0 15 "GhostPantry$Row" "size" "I") (by decide +kernel)) (fun _ h9 => h9) rfl dX0_putFirst_8 ?_
  refine lv_aload_n hx hb dX0_putFirst_11 rfl (lv_at hl 0 rfl) ?_
  refine va_get (D := G) (ci := 0) (v := .ref j) (C := RX0) (T := TX0) (N := 2) hx hb hts iX0_putFirst_X0 hown hK hP 0 rfl rfl 0 (by decide) (hts (.fieldLink RX0 9 "GhostPantry$Row" "jars" "[I") (by decide +kernel)) (fun _ h9 => h9) rfl dX0_putFirst_12 ?_
  refine va_alen hx hb hK hP 1 0 rfl rfl (v := (nI 30)) rfl dX0_putFirst_15 ?_
  refine g_icmp_lt (tgt := 20) hx hb dX0_putFirst_16 (by decide) (by omega) (by decide) (fun c_2 => ?_) (fun c_2 => False.elim (by omega))
  refine lv_aload_n hx hb dX0_putFirst_20 rfl (lv_at hl 0 rfl) ?_
  refine va_get (D := G) (ci := 0) (v := .int (nI L.length)) (C := RX0) (T := TX0) (N := 2) hx hb hts iX0_putFirst_X0 hown hK hP 0 rfl rfl 1 (by decide) (hts (.fieldLink RX0 15 "GhostPantry$Row" "size" "I") (by decide +kernel)) (fun _ h9 => h9) rfl dX0_putFirst_21 ?_
  refine g_if_le (tgt := 44) hx hb dX0_putFirst_24 (by decide) (by omega) (fun c_3 => ?_) (fun c_3 => ?_)
  · refine lv_aload_n hx hb dX0_putFirst_44 rfl (lv_at hl 0 rfl) ?_
    refine va_get (D := G) (ci := 0) (v := .ref j) (C := RX0) (T := TX0) (N := 2) hx hb hts iX0_putFirst_X0 hown hK hP 0 rfl rfl 0 (by decide) (hts (.fieldLink RX0 9 "GhostPantry$Row" "jars" "[I") (by decide +kernel)) (fun _ h9 => h9) rfl dX0_putFirst_45 ?_
    refine lv_iconst (v := (nI 0)) hx hb dX0_putFirst_48 (by decide +kernel) ?_
    refine lv_iload_n hx hb dX0_putFirst_49 rfl (lv_at hl 1 rfl) ?_
    refine g_iast hx hb hK hP hD hS 1 0 rfl rfl (i := 0) (x := jar) (by decide) (by decide) dX0_putFirst_50 (fun H_4 locs hP1 hD1 hS1 => ?_)
    clear hP hD hS
    have hP : va_P G vwCl [(r, .inr (0, [.ref j, .int (nI L.length)])), (j, .inl (cI, 30, .inl (upd f 0 jar)))] H_4 := hP1
    have hD : va_D A [(r, .inr (0, [.ref j, .int (nI L.length)])), (j, .inl (cI, 30, .inl (upd f 0 jar)))] := hD1
    have hS := hS1
    clear hP1 hD1 hS1
    refine lv_aload_n hx hb dX0_putFirst_51 rfl (lv_at hl 0 rfl) ?_
    refine lv_dup hx hb dX0_putFirst_52 rfl ?_
    refine va_get (D := G) (ci := 0) (v := .int (nI L.length)) (C := RX0) (T := TX0) (N := 2) hx hb hts iX0_putFirst_X0 hown hK hP 0 rfl rfl 1 (by decide) (hts (.fieldLink RX0 15 "GhostPantry$Row" "size" "I") (by decide +kernel)) (fun _ h9 => h9) rfl dX0_putFirst_53 ?_
    refine lv_iconst (v := (nI 1)) hx hb dX0_putFirst_56 (by decide +kernel) ?_
    refine g_iadd hx hb dX0_putFirst_57 ?_
    refine va_put (D := G) (ci := 0) (v := .int (nI (L.length + 1))) (ty := .int) (C := RX0) (T := TX0) (N := 2) hx hb hts iX0_putFirst_X0 tyX0 tyX0_ok nmX0 hown hK hP hD hS 0 rfl rfl 1 (by decide) (hts (.fieldLink RX0 15 "GhostPantry$Row" "size" "I") (by decide +kernel)) (fun _ h9 => h9) rfl (by decide +kernel) rfl rfl (Nat.le_of_ble_eq_true rfl) dX0_putFirst_58 (fun H_5 locs hP1 hD1 hS1 => ?_)
    clear hP hD hS
    have hP : va_P G vwCl [(r, .inr (0, [.ref j, .int (nI (L.length + 1))])), (j, .inl (cI, 30, .inl (upd f 0 jar)))] H_5 := hP1
    have hD : va_D A [(r, .inr (0, [.ref j, .int (nI (L.length + 1))])), (j, .inl (cI, 30, .inl (upd f 0 jar)))] := hD1
    have hS := hS1
    clear hP1 hD1 hS1
    have hP9 := hP.sub (ws' := [(r, .inr (0, [.ref j, .int (nI (L.length + 1))])), (j, .inl (cI, 30, .inl (upd f 0 jar)))]) [0, 1] rfl
    have hD9 := hD.sub (ws' := [(r, .inr (0, [.ref j, .int (nI (L.length + 1))])), (j, .inl (cI, 30, .inl (upd f 0 jar)))]) [0, 1] (by decide) rfl
    exact W.vret hx hb hr (fun t ht hW => ⟨⟨(), rfl, trivial, _, Rw_cons1 _ (by omega), g_at hP9 hK hD9 ht hW⟩, hS.F ht⟩) hS.2.2 dX0_putFirst_61
  · refine lv_aload_n hx hb dX0_putFirst_27 rfl (lv_at hl 0 rfl) ?_
    refine va_get (D := G) (ci := 0) (v := .ref j) (C := RX0) (T := TX0) (N := 2) hx hb hts iX0_putFirst_X0 hown hK hP 0 rfl rfl 0 (by decide) (hts (.fieldLink RX0 9 "GhostPantry$Row" "jars" "[I") (by decide +kernel)) (fun _ h9 => h9) rfl dX0_putFirst_28 ?_
    refine lv_iconst (v := (nI 0)) hx hb dX0_putFirst_31 (by decide +kernel) ?_
    refine lv_aload_n hx hb dX0_putFirst_32 rfl (lv_at hl 0 rfl) ?_
    refine va_get (D := G) (ci := 0) (v := .ref j) (C := RX0) (T := TX0) (N := 2) hx hb hts iX0_putFirst_X0 hown hK hP 0 rfl rfl 0 (by decide) (hts (.fieldLink RX0 9 "GhostPantry$Row" "jars" "[I") (by decide +kernel)) (fun _ h9 => h9) rfl dX0_putFirst_33 ?_
    refine lv_iconst (v := (nI 1)) hx hb dX0_putFirst_36 (by decide +kernel) ?_
    refine lv_aload_n hx hb dX0_putFirst_37 rfl (lv_at hl 0 rfl) ?_
    refine va_get (D := G) (ci := 0) (v := .int (nI L.length)) (C := RX0) (T := TX0) (N := 2) hx hb hts iX0_putFirst_X0 hown hK hP 0 rfl rfl 1 (by decide) (hts (.fieldLink RX0 15 "GhostPantry$Row" "size" "I") (by decide +kernel)) (fun _ h9 => h9) rfl dX0_putFirst_38 ?_
    refine g_copyi hx hb (hml.trans hl.1.symm) hown (hts (.methodLink RX0 19 arraycopyName) (by decide +kernel)) (hts (.native arraycopyName) (by decide +kernel)) (hts (.static arraycopyName) (by decide +kernel)) (hts (.initialized "java/lang/System") (by decide +kernel)) hK hP hD hS 1 1 0 rfl rfl rfl (sp := 0) (dp := 1) (n := L.length) (by decide) (by decide) (by omega) (by omega) (by omega) (Nat.le_of_ble_eq_true rfl) (Nat.le_of_ble_eq_true rfl) dX0_putFirst_41 (fun H_6 locs hP1 hD1 hS1 => ?_)
    clear hP hD hS
    have hP : va_P G vwCl [(r, .inr (0, [.ref j, .int (nI L.length)])), (j, .inl (cI, 30, .inl (va_cpy f f 0 1 L.length)))] H_6 := hP1
    have hD : va_D A [(r, .inr (0, [.ref j, .int (nI L.length)])), (j, .inl (cI, 30, .inl (va_cpy f f 0 1 L.length)))] := hD1
    have hS := hS1
    clear hP1 hD1 hS1
    refine lv_aload_n hx hb dX0_putFirst_44 rfl (lv_at hl 0 rfl) ?_
    refine va_get (D := G) (ci := 0) (v := .ref j) (C := RX0) (T := TX0) (N := 2) hx hb hts iX0_putFirst_X0 hown hK hP 0 rfl rfl 0 (by decide) (hts (.fieldLink RX0 9 "GhostPantry$Row" "jars" "[I") (by decide +kernel)) (fun _ h9 => h9) rfl dX0_putFirst_45 ?_
    refine lv_iconst (v := (nI 0)) hx hb dX0_putFirst_48 (by decide +kernel) ?_
    refine lv_iload_n hx hb dX0_putFirst_49 rfl (lv_at hl 1 rfl) ?_
    refine g_iast hx hb hK hP hD hS 1 0 rfl rfl (i := 0) (x := jar) (by decide) (by decide) dX0_putFirst_50 (fun H_7 locs hP1 hD1 hS1 => ?_)
    clear hP hD hS
    have hP : va_P G vwCl [(r, .inr (0, [.ref j, .int (nI L.length)])), (j, .inl (cI, 30, .inl (upd (va_cpy f f 0 1 L.length) 0 jar)))] H_7 := hP1
    have hD : va_D A [(r, .inr (0, [.ref j, .int (nI L.length)])), (j, .inl (cI, 30, .inl (upd (va_cpy f f 0 1 L.length) 0 jar)))] := hD1
    have hS := hS1
    clear hP1 hD1 hS1
    refine lv_aload_n hx hb dX0_putFirst_51 rfl (lv_at hl 0 rfl) ?_
    refine lv_dup hx hb dX0_putFirst_52 rfl ?_
    refine va_get (D := G) (ci := 0) (v := .int (nI L.length)) (C := RX0) (T := TX0) (N := 2) hx hb hts iX0_putFirst_X0 hown hK hP 0 rfl rfl 1 (by decide) (hts (.fieldLink RX0 15 "GhostPantry$Row" "size" "I") (by decide +kernel)) (fun _ h9 => h9) rfl dX0_putFirst_53 ?_
    refine lv_iconst (v := (nI 1)) hx hb dX0_putFirst_56 (by decide +kernel) ?_
    refine g_iadd hx hb dX0_putFirst_57 ?_
    refine va_put (D := G) (ci := 0) (v := .int (nI (L.length + 1))) (ty := .int) (C := RX0) (T := TX0) (N := 2) hx hb hts iX0_putFirst_X0 tyX0 tyX0_ok nmX0 hown hK hP hD hS 0 rfl rfl 1 (by decide) (hts (.fieldLink RX0 15 "GhostPantry$Row" "size" "I") (by decide +kernel)) (fun _ h9 => h9) rfl (by decide +kernel) rfl rfl (Nat.le_of_ble_eq_true rfl) dX0_putFirst_58 (fun H_8 locs hP1 hD1 hS1 => ?_)
    clear hP hD hS
    have hP : va_P G vwCl [(r, .inr (0, [.ref j, .int (nI (L.length + 1))])), (j, .inl (cI, 30, .inl (upd (va_cpy f f 0 1 L.length) 0 jar)))] H_8 := hP1
    have hD : va_D A [(r, .inr (0, [.ref j, .int (nI (L.length + 1))])), (j, .inl (cI, 30, .inl (upd (va_cpy f f 0 1 L.length) 0 jar)))] := hD1
    have hS := hS1
    clear hP1 hD1 hS1
    have hP9 := hP.sub (ws' := [(r, .inr (0, [.ref j, .int (nI (L.length + 1))])), (j, .inl (cI, 30, .inl (upd (va_cpy f f 0 1 L.length) 0 jar)))]) [0, 1] rfl
    have hD9 := hD.sub (ws' := [(r, .inr (0, [.ref j, .int (nI (L.length + 1))])), (j, .inl (cI, 30, .inl (upd (va_cpy f f 0 1 L.length) 0 jar)))]) [0, 1] (by decide) rfl
    exact W.vret hx hb hr (fun t ht hW => ⟨⟨(), rfl, trivial, _, Rw_cons _ hR, g_at hP9 hK hD9 ht hW⟩, hS.F ht⟩) hS.2.2 dX0_putFirst_61

set_option maxRecDepth 20000 in
theorem iX0_putLast_X0 : ∀ w ∈ wsX00, w ∈ wsX0_putLast := by decide +kernel
set_option maxHeartbeats 4000000 in
set_option maxRecDepth 100000 in
theorem c_X0_putLast (l : Launch) (G : va_G) (cI : ClassId) (r j : Nat) (f : Nat → Int32) (L : List Int32) (hR : Rw f L) (hn : L.length ≤ 30) (jar : Int32) (h30 : L.length < 30) (sz : Nat) : Met l yX0_putLast wsX0_putLast ({ frames := 0, cells := 0, slots := 0, locals := 0 }) (va_Pc [.ref r, .int jar] (gpre G [(cI, .int)] [(r, .inr (0, [.ref j, .int (nI L.length)])), (j, .inl (cI, 30, .inl f))] sz)) (va_Qv (fun (_ : Unit) => True) (fun (_ : Unit) t => ∃ f' : Nat → Int32, Rw f' (L ++ [jar]) ∧ gat G [(cI, .int)] (va_A [(r, .inr (0, [.ref j, .int (nI L.length)])), (j, .inl (cI, 30, .inl f))] sz) [(r, .inr (0, [.ref j, .int (nI ((L ++ [jar]).length))])), (j, .inl (cI, 30, .inl f'))] t) (va_A [(r, .inr (0, [.ref j, .int (nI L.length)])), (j, .inl (cI, 30, .inl f))] sz)) 0 0 (va_A [(r, .inr (0, [.ref j, .int (nI L.length)])), (j, .inl (cI, 30, .inl f))] sz) := by
  refine Met.ofW (cc := cX0_putLast) (maxL := 2) (ret := none) (by decide) rfl ?_
  intro p e s m args below meth c s₁ B hml hv
  obtain ⟨rfl, hsz, hP, hK, hD0⟩ := hv
  have hx := B.exec
  have hb := B.bytes
  have hr := B.returns
  have hts := atoms_spec (ws := wsX0_putLast) B.pre
  have hown : s.vm.findClass RX0 = some m.cls := findClass_of_methodNamed B.named
  have hlocks := B.notSynchronized
  subst hsz
  have hD := hD0.self (sz := s.heap.size)
  clear hD0
  generalize hAe : va_A [(r, .inr (0, [.ref j, .int (nI L.length)])), (j, .inl (cI, 30, .inl f))] s.heap.size = A at hD ⊢
  have hA : ∀ q : Nat, s.heap.size ≤ q → A q := fun q h => by rw [← hAe]; exact Or.inr h
  have hS : va_S A s.heap s.heap [] := va_S.rf
  have hP : va_P G vwCl [(r, .inr (0, [.ref j, .int (nI L.length)])), (j, .inl (cI, 30, .inl f))] s.heap := hP
  have hl := lv_entry ([.ref r, .int jar]) (n := 2) (Nat.le_of_ble_eq_true rfl)
  rw [lg_entry_eq]
  generalize (lg_sl ([.ref r, .int jar]) ++ List.replicate (2 - (lg_sl ([.ref r, .int jar])).length) Slot.unset).toArray = ls at hl ⊢
  have hl : lv_has ls 2 [(0, .ref r), (1, .int jar)] := hl
  refine lv_aload_n hx hb dX0_putLast_0 rfl (lv_at hl 0 rfl) ?_
  refine va_get (D := G) (ci := 0) (v := .int (nI L.length)) (C := RX0) (T := TX0) (N := 2) hx hb hts iX0_putLast_X0 hown hK hP 0 rfl rfl 1 (by decide) (hts (.fieldLink RX0 15 "GhostPantry$Row" "size" "I") (by decide +kernel)) (fun _ h9 => h9) rfl dX0_putLast_1 ?_
  refine g_if_lt (tgt := 19) hx hb dX0_putLast_4 (by decide) (by omega) ?_
  refine lv_aload_n hx hb dX0_putLast_7 rfl (lv_at hl 0 rfl) ?_
  refine va_get (D := G) (ci := 0) (v := .int (nI L.length)) (C := RX0) (T := TX0) (N := 2) hx hb hts iX0_putLast_X0 hown hK hP 0 rfl rfl 1 (by decide) (hts (.fieldLink RX0 15 "GhostPantry$Row" "size" "I") (by decide +kernel)) (fun _ h9 => h9) rfl dX0_putLast_8 ?_
  refine lv_aload_n hx hb dX0_putLast_11 rfl (lv_at hl 0 rfl) ?_
  refine va_get (D := G) (ci := 0) (v := .ref j) (C := RX0) (T := TX0) (N := 2) hx hb hts iX0_putLast_X0 hown hK hP 0 rfl rfl 0 (by decide) (hts (.fieldLink RX0 9 "GhostPantry$Row" "jars" "[I") (by decide +kernel)) (fun _ h9 => h9) rfl dX0_putLast_12 ?_
  refine va_alen hx hb hK hP 1 0 rfl rfl (v := (nI 30)) rfl dX0_putLast_15 ?_
  refine g_icmp_lt (tgt := 20) hx hb dX0_putLast_16 (by decide) (by omega) (by decide) (fun c_2 => ?_) (fun c_2 => False.elim (by omega))
  refine lv_aload_n hx hb dX0_putLast_20 rfl (lv_at hl 0 rfl) ?_
  refine va_get (D := G) (ci := 0) (v := .ref j) (C := RX0) (T := TX0) (N := 2) hx hb hts iX0_putLast_X0 hown hK hP 0 rfl rfl 0 (by decide) (hts (.fieldLink RX0 9 "GhostPantry$Row" "jars" "[I") (by decide +kernel)) (fun _ h9 => h9) rfl dX0_putLast_21 ?_
  refine lv_aload_n hx hb dX0_putLast_24 rfl (lv_at hl 0 rfl) ?_
  refine va_get (D := G) (ci := 0) (v := .int (nI L.length)) (C := RX0) (T := TX0) (N := 2) hx hb hts iX0_putLast_X0 hown hK hP 0 rfl rfl 1 (by decide) (hts (.fieldLink RX0 15 "GhostPantry$Row" "size" "I") (by decide +kernel)) (fun _ h9 => h9) rfl dX0_putLast_25 ?_
  refine lv_iload_n hx hb dX0_putLast_28 rfl (lv_at hl 1 rfl) ?_
  refine g_iast hx hb hK hP hD hS 1 0 rfl rfl (i := L.length) (x := jar) (by omega) (by decide) dX0_putLast_29 (fun H_3 locs hP1 hD1 hS1 => ?_)
  clear hP hD hS
  have hP : va_P G vwCl [(r, .inr (0, [.ref j, .int (nI L.length)])), (j, .inl (cI, 30, .inl (upd f L.length jar)))] H_3 := hP1
  have hD : va_D A [(r, .inr (0, [.ref j, .int (nI L.length)])), (j, .inl (cI, 30, .inl (upd f L.length jar)))] := hD1
  have hS := hS1
  clear hP1 hD1 hS1
  refine lv_aload_n hx hb dX0_putLast_30 rfl (lv_at hl 0 rfl) ?_
  refine lv_dup hx hb dX0_putLast_31 rfl ?_
  refine va_get (D := G) (ci := 0) (v := .int (nI L.length)) (C := RX0) (T := TX0) (N := 2) hx hb hts iX0_putLast_X0 hown hK hP 0 rfl rfl 1 (by decide) (hts (.fieldLink RX0 15 "GhostPantry$Row" "size" "I") (by decide +kernel)) (fun _ h9 => h9) rfl dX0_putLast_32 ?_
  refine lv_iconst (v := (nI 1)) hx hb dX0_putLast_35 (by decide +kernel) ?_
  refine g_iadd hx hb dX0_putLast_36 ?_
  refine va_put (D := G) (ci := 0) (v := .int (nI (L.length + 1))) (ty := .int) (C := RX0) (T := TX0) (N := 2) hx hb hts iX0_putLast_X0 tyX0 tyX0_ok nmX0 hown hK hP hD hS 0 rfl rfl 1 (by decide) (hts (.fieldLink RX0 15 "GhostPantry$Row" "size" "I") (by decide +kernel)) (fun _ h9 => h9) rfl (by decide +kernel) rfl rfl (Nat.le_of_ble_eq_true rfl) dX0_putLast_37 (fun H_4 locs hP1 hD1 hS1 => ?_)
  clear hP hD hS
  have hP : va_P G vwCl [(r, .inr (0, [.ref j, .int (nI (L.length + 1))])), (j, .inl (cI, 30, .inl (upd f L.length jar)))] H_4 := hP1
  have hD : va_D A [(r, .inr (0, [.ref j, .int (nI (L.length + 1))])), (j, .inl (cI, 30, .inl (upd f L.length jar)))] := hD1
  have hS := hS1
  clear hP1 hD1 hS1
  rw [show (L ++ [jar]).length = L.length + 1 from List.length_append]
  have hP9 := hP.sub (ws' := [(r, .inr (0, [.ref j, .int (nI (L.length + 1))])), (j, .inl (cI, 30, .inl (upd f L.length jar)))]) [0, 1] rfl
  have hD9 := hD.sub (ws' := [(r, .inr (0, [.ref j, .int (nI (L.length + 1))])), (j, .inl (cI, 30, .inl (upd f L.length jar)))]) [0, 1] (by decide) rfl
  exact W.vret hx hb hr (fun t ht hW => ⟨⟨(), rfl, trivial, _, Rw_snoc _ hR, g_at hP9 hK hD9 ht hW⟩, hS.F ht⟩) hS.2.2 dX0_putLast_40

set_option maxRecDepth 20000 in
theorem iX0_takeLast_X0 : ∀ w ∈ wsX00, w ∈ wsX0_takeLast := by decide +kernel
set_option maxHeartbeats 4000000 in
set_option maxRecDepth 100000 in
theorem c_X0_takeLast (l : Launch) (G : va_G) (cI : ClassId) (r j : Nat) (f : Nat → Int32) (L : List Int32) (hR : Rw f L) (hn : L.length ≤ 30) (h0 : 0 < L.length) (sz : Nat) : Met l yX0_takeLast wsX0_takeLast ({ frames := 0, cells := 0, slots := 0, locals := 0 }) (va_Pc [.ref r] (gpre G [(cI, .int)] [(r, .inr (0, [.ref j, .int (nI L.length)])), (j, .inl (cI, 30, .inl f))] sz)) (va_Qi (fun (z : Int32) (_ : Unit) => z = lst L) (fun (_ : Unit) t => ∃ f' : Nat → Int32, Rw f' L.dropLast ∧ gat G [(cI, .int)] (va_A [(r, .inr (0, [.ref j, .int (nI L.length)])), (j, .inl (cI, 30, .inl f))] sz) [(r, .inr (0, [.ref j, .int (nI L.dropLast.length)])), (j, .inl (cI, 30, .inl f'))] t) (va_A [(r, .inr (0, [.ref j, .int (nI L.length)])), (j, .inl (cI, 30, .inl f))] sz)) 0 0 (va_A [(r, .inr (0, [.ref j, .int (nI L.length)])), (j, .inl (cI, 30, .inl f))] sz) := by
  refine Met.ofW (cc := cX0_takeLast) (maxL := 1) (ret := (some .int)) (by decide) rfl ?_
  intro p e s m args below meth c s₁ B hml hv
  obtain ⟨rfl, hsz, hP, hK, hD0⟩ := hv
  have hx := B.exec
  have hb := B.bytes
  have hr := B.returns
  have hts := atoms_spec (ws := wsX0_takeLast) B.pre
  have hown : s.vm.findClass RX0 = some m.cls := findClass_of_methodNamed B.named
  have hlocks := B.notSynchronized
  subst hsz
  have hD := hD0.self (sz := s.heap.size)
  clear hD0
  generalize hAe : va_A [(r, .inr (0, [.ref j, .int (nI L.length)])), (j, .inl (cI, 30, .inl f))] s.heap.size = A at hD ⊢
  have hA : ∀ q : Nat, s.heap.size ≤ q → A q := fun q h => by rw [← hAe]; exact Or.inr h
  have hS : va_S A s.heap s.heap [] := va_S.rf
  have hP : va_P G vwCl [(r, .inr (0, [.ref j, .int (nI L.length)])), (j, .inl (cI, 30, .inl f))] s.heap := hP
  have hl := lv_entry ([.ref r]) (n := 1) (Nat.le_of_ble_eq_true rfl)
  rw [lg_entry_eq]
  generalize (lg_sl ([.ref r]) ++ List.replicate (1 - (lg_sl ([.ref r])).length) Slot.unset).toArray = ls at hl ⊢
  have hl : lv_has ls 1 [(0, .ref r)] := hl
  refine lv_aload_n hx hb dX0_takeLast_0 rfl (lv_at hl 0 rfl) ?_
  refine va_get (D := G) (ci := 0) (v := .int (nI L.length)) (C := RX0) (T := TX0) (N := 2) hx hb hts iX0_takeLast_X0 hown hK hP 0 rfl rfl 1 (by decide) (hts (.fieldLink RX0 15 "GhostPantry$Row" "size" "I") (by decide +kernel)) (fun _ h9 => h9) rfl dX0_takeLast_1 ?_
  refine g_if_le (tgt := 19) hx hb dX0_takeLast_4 (by decide) (by omega) (fun c_1 => False.elim (by omega)) (fun c_1 => ?_)
  refine lv_aload_n hx hb dX0_takeLast_7 rfl (lv_at hl 0 rfl) ?_
  refine va_get (D := G) (ci := 0) (v := .int (nI L.length)) (C := RX0) (T := TX0) (N := 2) hx hb hts iX0_takeLast_X0 hown hK hP 0 rfl rfl 1 (by decide) (hts (.fieldLink RX0 15 "GhostPantry$Row" "size" "I") (by decide +kernel)) (fun _ h9 => h9) rfl dX0_takeLast_8 ?_
  refine lv_aload_n hx hb dX0_takeLast_11 rfl (lv_at hl 0 rfl) ?_
  refine va_get (D := G) (ci := 0) (v := .ref j) (C := RX0) (T := TX0) (N := 2) hx hb hts iX0_takeLast_X0 hown hK hP 0 rfl rfl 0 (by decide) (hts (.fieldLink RX0 9 "GhostPantry$Row" "jars" "[I") (by decide +kernel)) (fun _ h9 => h9) rfl dX0_takeLast_12 ?_
  refine va_alen hx hb hK hP 1 0 rfl rfl (v := (nI 30)) rfl dX0_takeLast_15 ?_
  refine g_icmp_le (tgt := 21) hx hb dX0_takeLast_16 (by decide) (by omega) (by decide) (fun c_2 => ?_) (fun c_2 => False.elim (by omega))
  refine lv_aload_n hx hb dX0_takeLast_21 rfl (lv_at hl 0 rfl) ?_
  refine lv_dup hx hb dX0_takeLast_22 rfl ?_
  refine va_get (D := G) (ci := 0) (v := .int (nI L.length)) (C := RX0) (T := TX0) (N := 2) hx hb hts iX0_takeLast_X0 hown hK hP 0 rfl rfl 1 (by decide) (hts (.fieldLink RX0 15 "GhostPantry$Row" "size" "I") (by decide +kernel)) (fun _ h9 => h9) rfl dX0_takeLast_23 ?_
  refine lv_iconst (v := (nI 1)) hx hb dX0_takeLast_26 (by decide +kernel) ?_
  refine g_isub hx hb dX0_takeLast_27 (by omega) ?_
  refine va_put (D := G) (ci := 0) (v := .int (nI (L.length - 1))) (ty := .int) (C := RX0) (T := TX0) (N := 2) hx hb hts iX0_takeLast_X0 tyX0 tyX0_ok nmX0 hown hK hP hD hS 0 rfl rfl 1 (by decide) (hts (.fieldLink RX0 15 "GhostPantry$Row" "size" "I") (by decide +kernel)) (fun _ h9 => h9) rfl (by decide +kernel) rfl rfl (Nat.le_of_ble_eq_true rfl) dX0_takeLast_28 (fun H_3 locs hP1 hD1 hS1 => ?_)
  clear hP hD hS
  have hP : va_P G vwCl [(r, .inr (0, [.ref j, .int (nI (L.length - 1))])), (j, .inl (cI, 30, .inl f))] H_3 := hP1
  have hD : va_D A [(r, .inr (0, [.ref j, .int (nI (L.length - 1))])), (j, .inl (cI, 30, .inl f))] := hD1
  have hS := hS1
  clear hP1 hD1 hS1
  refine lv_aload_n hx hb dX0_takeLast_31 rfl (lv_at hl 0 rfl) ?_
  refine va_get (D := G) (ci := 0) (v := .ref j) (C := RX0) (T := TX0) (N := 2) hx hb hts iX0_takeLast_X0 hown hK hP 0 rfl rfl 0 (by decide) (hts (.fieldLink RX0 9 "GhostPantry$Row" "jars" "[I") (by decide +kernel)) (fun _ h9 => h9) rfl dX0_takeLast_32 ?_
  refine lv_aload_n hx hb dX0_takeLast_35 rfl (lv_at hl 0 rfl) ?_
  refine va_get (D := G) (ci := 0) (v := .int (nI (L.length - 1))) (C := RX0) (T := TX0) (N := 2) hx hb hts iX0_takeLast_X0 hown hK hP 0 rfl rfl 1 (by decide) (hts (.fieldLink RX0 15 "GhostPantry$Row" "size" "I") (by decide +kernel)) (fun _ h9 => h9) rfl dX0_takeLast_36 ?_
  refine g_iald hx hb hK hP 1 0 rfl rfl (i := (L.length - 1)) (by omega) (by decide) dX0_takeLast_39 (v := (lst L)) (Rw_lst hR h0) ?_
  rw [show L.dropLast.length = L.length - 1 from List.length_dropLast]
  have hP9 := hP.sub (ws' := [(r, .inr (0, [.ref j, .int (nI (L.length - 1))])), (j, .inl (cI, 30, .inl f))]) [0, 1] rfl
  have hD9 := hD.sub (ws' := [(r, .inr (0, [.ref j, .int (nI (L.length - 1))])), (j, .inl (cI, 30, .inl f))]) [0, 1] (by decide) rfl
  exact W.iret (v := (lst L)) hx hb hr (fun t ht hW => ⟨⟨(lst L), (), rfl, rfl, _, Rw_drop hR, g_at hP9 hK hD9 ht hW⟩, hS.F ht⟩) hS.2.2 dX0_takeLast_40

set_option maxRecDepth 20000 in
theorem iX0_takeAt_X0 : ∀ w ∈ wsX00, w ∈ wsX0_takeAt := by decide +kernel
set_option maxHeartbeats 4000000 in
set_option maxRecDepth 100000 in
theorem c_X0_takeAt (l : Launch) (G : va_G) (cI : ClassId) (r j : Nat) (f : Nat → Int32) (L : List Int32) (hR : Rw f L) (hn : L.length ≤ 30) (pl : Nat) (hp : pl < L.length) (sz : Nat) : Met l yX0_takeAt wsX0_takeAt ({ frames := 1, cells := 0, slots := 0, locals := 18 }) (va_Pc [.ref r, .int (nI pl)] (gpre G [(cI, .int)] [(r, .inr (0, [.ref j, .int (nI L.length)])), (j, .inl (cI, 30, .inl f))] sz)) (va_Qi (fun (z : Int32) (_ : Unit) => z = L.getD pl 0) (fun (_ : Unit) t => ∃ f' : Nat → Int32, Rw f' (L.eraseIdx pl) ∧ gat G [(cI, .int)] (va_A [(r, .inr (0, [.ref j, .int (nI L.length)])), (j, .inl (cI, 30, .inl f))] sz) [(r, .inr (0, [.ref j, .int (nI ((L.eraseIdx pl).length))])), (j, .inl (cI, 30, .inl f'))] t) (va_A [(r, .inr (0, [.ref j, .int (nI L.length)])), (j, .inl (cI, 30, .inl f))] sz)) 0 0 (va_A [(r, .inr (0, [.ref j, .int (nI L.length)])), (j, .inl (cI, 30, .inl f))] sz) := by
  refine Met.ofW (cc := cX0_takeAt) (maxL := 4) (ret := (some .int)) (by decide) rfl ?_
  intro p e s m args below meth c s₁ B hml hv
  obtain ⟨rfl, hsz, hP, hK, hD0⟩ := hv
  have hx := B.exec
  have hb := B.bytes
  have hr := B.returns
  have hts := atoms_spec (ws := wsX0_takeAt) B.pre
  have hown : s.vm.findClass RX0 = some m.cls := findClass_of_methodNamed B.named
  have hlocks := B.notSynchronized
  subst hsz
  have hD := hD0.self (sz := s.heap.size)
  clear hD0
  generalize hAe : va_A [(r, .inr (0, [.ref j, .int (nI L.length)])), (j, .inl (cI, 30, .inl f))] s.heap.size = A at hD ⊢
  have hA : ∀ q : Nat, s.heap.size ≤ q → A q := fun q h => by rw [← hAe]; exact Or.inr h
  have hS : va_S A s.heap s.heap [] := va_S.rf
  have hP : va_P G vwCl [(r, .inr (0, [.ref j, .int (nI L.length)])), (j, .inl (cI, 30, .inl f))] s.heap := hP
  have hl := lv_entry ([.ref r, .int (nI pl)]) (n := 4) (Nat.le_of_ble_eq_true rfl)
  rw [lg_entry_eq]
  generalize (lg_sl ([.ref r, .int (nI pl)]) ++ List.replicate (4 - (lg_sl ([.ref r, .int (nI pl)])).length) Slot.unset).toArray = ls at hl ⊢
  have hl : lv_has ls 4 [(0, .ref r), (1, .int (nI pl))] := hl
  refine lv_iload_n hx hb dX0_takeAt_0 rfl (lv_at hl 1 rfl) ?_
  refine g_if_lt (tgt := 24) hx hb dX0_takeAt_1 (by decide) (by omega) ?_
  refine lv_iload_n hx hb dX0_takeAt_4 rfl (lv_at hl 1 rfl) ?_
  refine lv_aload_n hx hb dX0_takeAt_5 rfl (lv_at hl 0 rfl) ?_
  refine va_get (D := G) (ci := 0) (v := .int (nI L.length)) (C := RX0) (T := TX0) (N := 2) hx hb hts iX0_takeAt_X0 hown hK hP 0 rfl rfl 1 (by decide) (hts (.fieldLink RX0 15 "GhostPantry$Row" "size" "I") (by decide +kernel)) (fun _ h9 => h9) rfl dX0_takeAt_6 ?_
  refine g_icmp_ge (tgt := 24) hx hb dX0_takeAt_9 (by decide) (by omega) (by omega) (fun c_2 => False.elim (by omega)) (fun c_2 => ?_)
  refine lv_aload_n hx hb dX0_takeAt_12 rfl (lv_at hl 0 rfl) ?_
  refine va_get (D := G) (ci := 0) (v := .int (nI L.length)) (C := RX0) (T := TX0) (N := 2) hx hb hts iX0_takeAt_X0 hown hK hP 0 rfl rfl 1 (by decide) (hts (.fieldLink RX0 15 "GhostPantry$Row" "size" "I") (by decide +kernel)) (fun _ h9 => h9) rfl dX0_takeAt_13 ?_
  refine lv_aload_n hx hb dX0_takeAt_16 rfl (lv_at hl 0 rfl) ?_
  refine va_get (D := G) (ci := 0) (v := .ref j) (C := RX0) (T := TX0) (N := 2) hx hb hts iX0_takeAt_X0 hown hK hP 0 rfl rfl 0 (by decide) (hts (.fieldLink RX0 9 "GhostPantry$Row" "jars" "[I") (by decide +kernel)) (fun _ h9 => h9) rfl dX0_takeAt_17 ?_
  refine va_alen hx hb hK hP 1 0 rfl rfl (v := (nI 30)) rfl dX0_takeAt_20 ?_
  refine g_icmp_le (tgt := 26) hx hb dX0_takeAt_21 (by decide) (by omega) (by decide) (fun c_3 => ?_) (fun c_3 => False.elim (by omega))
  refine lv_aload_n hx hb dX0_takeAt_26 rfl (lv_at hl 0 rfl) ?_
  refine va_get (D := G) (ci := 0) (v := .ref j) (C := RX0) (T := TX0) (N := 2) hx hb hts iX0_takeAt_X0 hown hK hP 0 rfl rfl 0 (by decide) (hts (.fieldLink RX0 9 "GhostPantry$Row" "jars" "[I") (by decide +kernel)) (fun _ h9 => h9) rfl dX0_takeAt_27 ?_
  refine lv_iload_n hx hb dX0_takeAt_30 rfl (lv_at hl 1 rfl) ?_
  refine g_iald hx hb hK hP 1 0 rfl rfl (i := pl) (by omega) (by decide) dX0_takeAt_31 (v := (L.getD pl 0)) (hR _ (by omega)) ?_
  refine lv_istore_n (lv' := [(2, .int (L.getD pl 0)), (0, .ref r), (1, .int (nI pl))]) hx hb dX0_takeAt_32 rfl hl (by decide) rfl (fun ls hl => ?_)
  refine lv_aload_n hx hb dX0_takeAt_33 rfl (lv_at hl 1 rfl) ?_
  refine va_get (D := G) (ci := 0) (v := .int (nI L.length)) (C := RX0) (T := TX0) (N := 2) hx hb hts iX0_takeAt_X0 hown hK hP 0 rfl rfl 1 (by decide) (hts (.fieldLink RX0 15 "GhostPantry$Row" "size" "I") (by decide +kernel)) (fun _ h9 => h9) rfl dX0_takeAt_34 ?_
  refine lv_iload_n hx hb dX0_takeAt_37 rfl (lv_at hl 2 rfl) ?_
  refine g_isub hx hb dX0_takeAt_38 (by omega) ?_
  refine lv_iconst (v := (nI 1)) hx hb dX0_takeAt_39 (by decide +kernel) ?_
  refine g_isub hx hb dX0_takeAt_40 (by omega) ?_
  refine lv_istore_n (lv' := [(3, .int (nI ((L.length - pl) - 1))), (2, .int (L.getD pl 0)), (0, .ref r), (1, .int (nI pl))]) hx hb dX0_takeAt_41 rfl hl (by decide) rfl (fun ls hl => ?_)
  refine lv_iload_n hx hb dX0_takeAt_42 rfl (lv_at hl 0 rfl) ?_
  refine g_if_le (tgt := 62) hx hb dX0_takeAt_43 (by decide) (by omega) (fun c_4 => ?_) (fun c_4 => ?_)
  · refine lv_aload_n hx hb dX0_takeAt_62 rfl (lv_at hl 2 rfl) ?_
    refine lv_dup hx hb dX0_takeAt_63 rfl ?_
    refine va_get (D := G) (ci := 0) (v := .int (nI L.length)) (C := RX0) (T := TX0) (N := 2) hx hb hts iX0_takeAt_X0 hown hK hP 0 rfl rfl 1 (by decide) (hts (.fieldLink RX0 15 "GhostPantry$Row" "size" "I") (by decide +kernel)) (fun _ h9 => h9) rfl dX0_takeAt_64 ?_
    refine lv_iconst (v := (nI 1)) hx hb dX0_takeAt_67 (by decide +kernel) ?_
    refine g_isub hx hb dX0_takeAt_68 (by omega) ?_
    refine va_put (D := G) (ci := 0) (v := .int (nI (L.length - 1))) (ty := .int) (C := RX0) (T := TX0) (N := 2) hx hb hts iX0_takeAt_X0 tyX0 tyX0_ok nmX0 hown hK hP hD hS 0 rfl rfl 1 (by decide) (hts (.fieldLink RX0 15 "GhostPantry$Row" "size" "I") (by decide +kernel)) (fun _ h9 => h9) rfl (by decide +kernel) rfl rfl (Nat.le_of_ble_eq_true rfl) dX0_takeAt_69 (fun H_5 locs hP1 hD1 hS1 => ?_)
    clear hP hD hS
    have hP : va_P G vwCl [(r, .inr (0, [.ref j, .int (nI (L.length - 1))])), (j, .inl (cI, 30, .inl f))] H_5 := hP1
    have hD : va_D A [(r, .inr (0, [.ref j, .int (nI (L.length - 1))])), (j, .inl (cI, 30, .inl f))] := hD1
    have hS := hS1
    clear hP1 hD1 hS1
    refine lv_iload_n hx hb dX0_takeAt_72 rfl (lv_at hl 1 rfl) ?_
    rw [show (L.eraseIdx pl).length = L.length - 1 from List.length_eraseIdx_of_lt hp]
    have hP9 := hP.sub (ws' := [(r, .inr (0, [.ref j, .int (nI (L.length - 1))])), (j, .inl (cI, 30, .inl f))]) [0, 1] rfl
    have hD9 := hD.sub (ws' := [(r, .inr (0, [.ref j, .int (nI (L.length - 1))])), (j, .inl (cI, 30, .inl f))]) [0, 1] (by decide) rfl
    exact W.iret (v := (L.getD pl 0)) hx hb hr (fun t ht hW => ⟨⟨(L.getD pl 0), (), rfl, rfl, _, Rw_eraseL hR hp (by omega), g_at hP9 hK hD9 ht hW⟩, hS.F ht⟩) hS.2.2 dX0_takeAt_73
  · refine lv_aload_n hx hb dX0_takeAt_46 rfl (lv_at hl 2 rfl) ?_
    refine va_get (D := G) (ci := 0) (v := .ref j) (C := RX0) (T := TX0) (N := 2) hx hb hts iX0_takeAt_X0 hown hK hP 0 rfl rfl 0 (by decide) (hts (.fieldLink RX0 9 "GhostPantry$Row" "jars" "[I") (by decide +kernel)) (fun _ h9 => h9) rfl dX0_takeAt_47 ?_
    refine lv_iload_n hx hb dX0_takeAt_50 rfl (lv_at hl 3 rfl) ?_
    refine lv_iconst (v := (nI 1)) hx hb dX0_takeAt_51 (by decide +kernel) ?_
    refine g_iadd hx hb dX0_takeAt_52 ?_
    refine lv_aload_n hx hb dX0_takeAt_53 rfl (lv_at hl 2 rfl) ?_
    refine va_get (D := G) (ci := 0) (v := .ref j) (C := RX0) (T := TX0) (N := 2) hx hb hts iX0_takeAt_X0 hown hK hP 0 rfl rfl 0 (by decide) (hts (.fieldLink RX0 9 "GhostPantry$Row" "jars" "[I") (by decide +kernel)) (fun _ h9 => h9) rfl dX0_takeAt_54 ?_
    refine lv_iload_n hx hb dX0_takeAt_57 rfl (lv_at hl 3 rfl) ?_
    refine lv_iload_n hx hb dX0_takeAt_58 rfl (lv_at hl 0 rfl) ?_
    refine g_copyi hx hb (hml.trans hl.1.symm) hown (hts (.methodLink RX0 19 arraycopyName) (by decide +kernel)) (hts (.native arraycopyName) (by decide +kernel)) (hts (.static arraycopyName) (by decide +kernel)) (hts (.initialized "java/lang/System") (by decide +kernel)) hK hP hD hS 1 1 0 rfl rfl rfl (sp := (pl + 1)) (dp := pl) (n := ((L.length - pl) - 1)) (by omega) (by omega) (by omega) (by omega) (by omega) (Nat.le_of_ble_eq_true rfl) (Nat.le_of_ble_eq_true rfl) dX0_takeAt_59 (fun H_6 locs hP1 hD1 hS1 => ?_)
    clear hP hD hS
    have hP : va_P G vwCl [(r, .inr (0, [.ref j, .int (nI L.length)])), (j, .inl (cI, 30, .inl (va_cpy f f (pl + 1) pl ((L.length - pl) - 1))))] H_6 := hP1
    have hD : va_D A [(r, .inr (0, [.ref j, .int (nI L.length)])), (j, .inl (cI, 30, .inl (va_cpy f f (pl + 1) pl ((L.length - pl) - 1))))] := hD1
    have hS := hS1
    clear hP1 hD1 hS1
    refine lv_aload_n hx hb dX0_takeAt_62 rfl (lv_at hl 2 rfl) ?_
    refine lv_dup hx hb dX0_takeAt_63 rfl ?_
    refine va_get (D := G) (ci := 0) (v := .int (nI L.length)) (C := RX0) (T := TX0) (N := 2) hx hb hts iX0_takeAt_X0 hown hK hP 0 rfl rfl 1 (by decide) (hts (.fieldLink RX0 15 "GhostPantry$Row" "size" "I") (by decide +kernel)) (fun _ h9 => h9) rfl dX0_takeAt_64 ?_
    refine lv_iconst (v := (nI 1)) hx hb dX0_takeAt_67 (by decide +kernel) ?_
    refine g_isub hx hb dX0_takeAt_68 (by omega) ?_
    refine va_put (D := G) (ci := 0) (v := .int (nI (L.length - 1))) (ty := .int) (C := RX0) (T := TX0) (N := 2) hx hb hts iX0_takeAt_X0 tyX0 tyX0_ok nmX0 hown hK hP hD hS 0 rfl rfl 1 (by decide) (hts (.fieldLink RX0 15 "GhostPantry$Row" "size" "I") (by decide +kernel)) (fun _ h9 => h9) rfl (by decide +kernel) rfl rfl (Nat.le_of_ble_eq_true rfl) dX0_takeAt_69 (fun H_7 locs hP1 hD1 hS1 => ?_)
    clear hP hD hS
    have hP : va_P G vwCl [(r, .inr (0, [.ref j, .int (nI (L.length - 1))])), (j, .inl (cI, 30, .inl (va_cpy f f (pl + 1) pl ((L.length - pl) - 1))))] H_7 := hP1
    have hD : va_D A [(r, .inr (0, [.ref j, .int (nI (L.length - 1))])), (j, .inl (cI, 30, .inl (va_cpy f f (pl + 1) pl ((L.length - pl) - 1))))] := hD1
    have hS := hS1
    clear hP1 hD1 hS1
    refine lv_iload_n hx hb dX0_takeAt_72 rfl (lv_at hl 1 rfl) ?_
    rw [show (L.eraseIdx pl).length = L.length - 1 from List.length_eraseIdx_of_lt hp]
    have hP9 := hP.sub (ws' := [(r, .inr (0, [.ref j, .int (nI (L.length - 1))])), (j, .inl (cI, 30, .inl (va_cpy f f (pl + 1) pl ((L.length - pl) - 1))))]) [0, 1] rfl
    have hD9 := hD.sub (ws' := [(r, .inr (0, [.ref j, .int (nI (L.length - 1))])), (j, .inl (cI, 30, .inl (va_cpy f f (pl + 1) pl ((L.length - pl) - 1))))]) [0, 1] (by decide) rfl
    exact W.iret (v := (L.getD pl 0)) hx hb hr (fun t ht hW => ⟨⟨(L.getD pl 0), (), rfl, rfl, _, Rw_erase hR hp, g_at hP9 hK hD9 ht hW⟩, hS.F ht⟩) hS.2.2 dX0_takeAt_73

set_option maxRecDepth 20000 in
theorem iX0_clear_X0 : ∀ w ∈ wsX00, w ∈ wsX0_clear := by decide +kernel
set_option maxHeartbeats 4000000 in
set_option maxRecDepth 100000 in
theorem c_X0_clear (l : Launch) (G : va_G) (cI : ClassId) (r j : Nat) (f : Nat → Int32) (z : Int32) (sz : Nat) : Met l yX0_clear wsX0_clear ({ frames := 0, cells := 0, slots := 0, locals := 0 }) (va_Pc [.ref r] (gpre G [(cI, .int)] [(r, .inr (0, [.ref j, .int z])), (j, .inl (cI, 30, .inl f))] sz)) (va_Qv (fun (_ : Unit) => True) (fun (_ : Unit) t => gat G [(cI, .int)] (va_A [(r, .inr (0, [.ref j, .int z])), (j, .inl (cI, 30, .inl f))] sz) [(r, .inr (0, [.ref j, .int (nI 0)])), (j, .inl (cI, 30, .inl f))] t) (va_A [(r, .inr (0, [.ref j, .int z])), (j, .inl (cI, 30, .inl f))] sz)) 0 0 (va_A [(r, .inr (0, [.ref j, .int z])), (j, .inl (cI, 30, .inl f))] sz) := by
  refine Met.ofW (cc := cX0_clear) (maxL := 1) (ret := none) (by decide) rfl ?_
  intro p e s m args below meth c s₁ B hml hv
  obtain ⟨rfl, hsz, hP, hK, hD0⟩ := hv
  have hx := B.exec
  have hb := B.bytes
  have hr := B.returns
  have hts := atoms_spec (ws := wsX0_clear) B.pre
  have hown : s.vm.findClass RX0 = some m.cls := findClass_of_methodNamed B.named
  have hlocks := B.notSynchronized
  subst hsz
  have hD := hD0.self (sz := s.heap.size)
  clear hD0
  generalize hAe : va_A [(r, .inr (0, [.ref j, .int z])), (j, .inl (cI, 30, .inl f))] s.heap.size = A at hD ⊢
  have hA : ∀ q : Nat, s.heap.size ≤ q → A q := fun q h => by rw [← hAe]; exact Or.inr h
  have hS : va_S A s.heap s.heap [] := va_S.rf
  have hP : va_P G vwCl [(r, .inr (0, [.ref j, .int z])), (j, .inl (cI, 30, .inl f))] s.heap := hP
  have hl := lv_entry ([.ref r]) (n := 1) (Nat.le_of_ble_eq_true rfl)
  rw [lg_entry_eq]
  generalize (lg_sl ([.ref r]) ++ List.replicate (1 - (lg_sl ([.ref r])).length) Slot.unset).toArray = ls at hl ⊢
  have hl : lv_has ls 1 [(0, .ref r)] := hl
  refine lv_aload_n hx hb dX0_clear_0 rfl (lv_at hl 0 rfl) ?_
  refine lv_iconst (v := (nI 0)) hx hb dX0_clear_1 (by decide +kernel) ?_
  refine va_put (D := G) (ci := 0) (v := .int (nI 0)) (ty := .int) (C := RX0) (T := TX0) (N := 2) hx hb hts iX0_clear_X0 tyX0 tyX0_ok nmX0 hown hK hP hD hS 0 rfl rfl 1 (by decide) (hts (.fieldLink RX0 15 "GhostPantry$Row" "size" "I") (by decide +kernel)) (fun _ h9 => h9) rfl (by decide +kernel) rfl rfl (Nat.le_of_ble_eq_true rfl) dX0_clear_2 (fun H_1 locs hP1 hD1 hS1 => ?_)
  clear hP hD hS
  have hP : va_P G vwCl [(r, .inr (0, [.ref j, .int (nI 0)])), (j, .inl (cI, 30, .inl f))] H_1 := hP1
  have hD : va_D A [(r, .inr (0, [.ref j, .int (nI 0)])), (j, .inl (cI, 30, .inl f))] := hD1
  have hS := hS1
  clear hP1 hD1 hS1
  have hP9 := hP.sub (ws' := [(r, .inr (0, [.ref j, .int (nI 0)])), (j, .inl (cI, 30, .inl f))]) [0, 1] rfl
  have hD9 := hD.sub (ws' := [(r, .inr (0, [.ref j, .int (nI 0)])), (j, .inl (cI, 30, .inl f))]) [0, 1] (by decide) rfl
  exact W.vret hx hb hr (fun t ht hW => ⟨⟨(), rfl, trivial, g_at hP9 hK hD9 ht hW⟩, hS.F ht⟩) hS.2.2 dX0_clear_5

set_option maxRecDepth 20000 in
theorem iX0_copyFrom_X0 : ∀ w ∈ wsX00, w ∈ wsX0_copyFrom := by decide +kernel
set_option maxHeartbeats 4000000 in
set_option maxRecDepth 100000 in
theorem c_X0_copyFrom (l : Launch) (G : va_G) (cI : ClassId) (r j : Nat) (f : Nat → Int32) (L : List Int32) (hR : Rw f L) (hn : L.length ≤ 30) (a b : Nat) (g : Nat → Int32) (z : Int32) (sz : Nat) : Met l yX0_copyFrom wsX0_copyFrom ({ frames := 1, cells := 0, slots := 0, locals := 18 }) (va_Pc [.ref a, .ref r] (gpre G [(cI, .int)] [(a, .inr (0, [.ref b, .int z])), (b, .inl (cI, 30, .inl g)), (r, .inr (0, [.ref j, .int (nI L.length)])), (j, .inl (cI, 30, .inl f))] sz)) (va_Qv (fun (_ : Unit) => True) (fun (_ : Unit) t => ∃ f' : Nat → Int32, Rw f' L ∧ gat G [(cI, .int)] (va_A [(a, .inr (0, [.ref b, .int z])), (b, .inl (cI, 30, .inl g)), (r, .inr (0, [.ref j, .int (nI L.length)])), (j, .inl (cI, 30, .inl f))] sz) [(a, .inr (0, [.ref b, .int (nI L.length)])), (b, .inl (cI, 30, .inl f')), (r, .inr (0, [.ref j, .int (nI L.length)])), (j, .inl (cI, 30, .inl f))] t) (va_A [(a, .inr (0, [.ref b, .int z])), (b, .inl (cI, 30, .inl g)), (r, .inr (0, [.ref j, .int (nI L.length)])), (j, .inl (cI, 30, .inl f))] sz)) 0 0 (va_A [(a, .inr (0, [.ref b, .int z])), (b, .inl (cI, 30, .inl g)), (r, .inr (0, [.ref j, .int (nI L.length)])), (j, .inl (cI, 30, .inl f))] sz) := by
  refine Met.ofW (cc := cX0_copyFrom) (maxL := 3) (ret := none) (by decide) rfl ?_
  intro p e s m args below meth c s₁ B hml hv
  obtain ⟨rfl, hsz, hP, hK, hD0⟩ := hv
  have hx := B.exec
  have hb := B.bytes
  have hr := B.returns
  have hts := atoms_spec (ws := wsX0_copyFrom) B.pre
  have hown : s.vm.findClass RX0 = some m.cls := findClass_of_methodNamed B.named
  have hlocks := B.notSynchronized
  subst hsz
  have hD := hD0.self (sz := s.heap.size)
  clear hD0
  generalize hAe : va_A [(a, .inr (0, [.ref b, .int z])), (b, .inl (cI, 30, .inl g)), (r, .inr (0, [.ref j, .int (nI L.length)])), (j, .inl (cI, 30, .inl f))] s.heap.size = A at hD ⊢
  have hA : ∀ q : Nat, s.heap.size ≤ q → A q := fun q h => by rw [← hAe]; exact Or.inr h
  have hS : va_S A s.heap s.heap [] := va_S.rf
  have hP : va_P G vwCl [(a, .inr (0, [.ref b, .int z])), (b, .inl (cI, 30, .inl g)), (r, .inr (0, [.ref j, .int (nI L.length)])), (j, .inl (cI, 30, .inl f))] s.heap := hP
  have hl := lv_entry ([.ref a, .ref r]) (n := 3) (Nat.le_of_ble_eq_true rfl)
  rw [lg_entry_eq]
  generalize (lg_sl ([.ref a, .ref r]) ++ List.replicate (3 - (lg_sl ([.ref a, .ref r])).length) Slot.unset).toArray = ls at hl ⊢
  have hl : lv_has ls 3 [(0, .ref a), (1, .ref r)] := hl
  refine lv_aload_n hx hb dX0_copyFrom_0 rfl (lv_at hl 1 rfl) ?_
  refine va_get (D := G) (ci := 0) (v := .int (nI L.length)) (C := RX0) (T := TX0) (N := 2) hx hb hts iX0_copyFrom_X0 hown hK hP 2 rfl rfl 1 (by decide) (hts (.fieldLink RX0 15 "GhostPantry$Row" "size" "I") (by decide +kernel)) (fun _ h9 => h9) rfl dX0_copyFrom_1 ?_
  refine lv_istore_n (lv' := [(2, .int (nI L.length)), (0, .ref a), (1, .ref r)]) hx hb dX0_copyFrom_4 rfl hl (by decide) rfl (fun ls hl => ?_)
  refine lv_iload_n hx hb dX0_copyFrom_5 rfl (lv_at hl 0 rfl) ?_
  refine g_if_lt (tgt := 27) hx hb dX0_copyFrom_6 (by decide) (by omega) ?_
  refine lv_iload_n hx hb dX0_copyFrom_9 rfl (lv_at hl 0 rfl) ?_
  refine lv_aload_n hx hb dX0_copyFrom_10 rfl (lv_at hl 1 rfl) ?_
  refine va_get (D := G) (ci := 0) (v := .ref b) (C := RX0) (T := TX0) (N := 2) hx hb hts iX0_copyFrom_X0 hown hK hP 0 rfl rfl 0 (by decide) (hts (.fieldLink RX0 9 "GhostPantry$Row" "jars" "[I") (by decide +kernel)) (fun _ h9 => h9) rfl dX0_copyFrom_11 ?_
  refine va_alen hx hb hK hP 1 0 rfl rfl (v := (nI 30)) rfl dX0_copyFrom_14 ?_
  refine g_icmp_gt (tgt := 27) hx hb dX0_copyFrom_15 (by decide) (by omega) (by decide) (fun c_2 => False.elim (by omega)) (fun c_2 => ?_)
  refine lv_iload_n hx hb dX0_copyFrom_18 rfl (lv_at hl 0 rfl) ?_
  refine lv_aload_n hx hb dX0_copyFrom_19 rfl (lv_at hl 2 rfl) ?_
  refine va_get (D := G) (ci := 0) (v := .ref j) (C := RX0) (T := TX0) (N := 2) hx hb hts iX0_copyFrom_X0 hown hK hP 2 rfl rfl 0 (by decide) (hts (.fieldLink RX0 9 "GhostPantry$Row" "jars" "[I") (by decide +kernel)) (fun _ h9 => h9) rfl dX0_copyFrom_20 ?_
  refine va_alen hx hb hK hP 3 0 rfl rfl (v := (nI 30)) rfl dX0_copyFrom_23 ?_
  refine g_icmp_le (tgt := 28) hx hb dX0_copyFrom_24 (by decide) (by omega) (by decide) (fun c_3 => ?_) (fun c_3 => False.elim (by omega))
  refine lv_aload_n hx hb dX0_copyFrom_28 rfl (lv_at hl 2 rfl) ?_
  refine va_get (D := G) (ci := 0) (v := .ref j) (C := RX0) (T := TX0) (N := 2) hx hb hts iX0_copyFrom_X0 hown hK hP 2 rfl rfl 0 (by decide) (hts (.fieldLink RX0 9 "GhostPantry$Row" "jars" "[I") (by decide +kernel)) (fun _ h9 => h9) rfl dX0_copyFrom_29 ?_
  refine lv_iconst (v := (nI 0)) hx hb dX0_copyFrom_32 (by decide +kernel) ?_
  refine lv_aload_n hx hb dX0_copyFrom_33 rfl (lv_at hl 1 rfl) ?_
  refine va_get (D := G) (ci := 0) (v := .ref b) (C := RX0) (T := TX0) (N := 2) hx hb hts iX0_copyFrom_X0 hown hK hP 0 rfl rfl 0 (by decide) (hts (.fieldLink RX0 9 "GhostPantry$Row" "jars" "[I") (by decide +kernel)) (fun _ h9 => h9) rfl dX0_copyFrom_34 ?_
  refine lv_iconst (v := (nI 0)) hx hb dX0_copyFrom_37 (by decide +kernel) ?_
  refine lv_iload_n hx hb dX0_copyFrom_38 rfl (lv_at hl 0 rfl) ?_
  refine g_copyi hx hb (hml.trans hl.1.symm) hown (hts (.methodLink RX0 19 arraycopyName) (by decide +kernel)) (hts (.native arraycopyName) (by decide +kernel)) (hts (.static arraycopyName) (by decide +kernel)) (hts (.initialized "java/lang/System") (by decide +kernel)) hK hP hD hS 3 1 0 rfl rfl rfl (sp := 0) (dp := 0) (n := L.length) (by decide) (by decide) (by omega) (by omega) (by omega) (Nat.le_of_ble_eq_true rfl) (Nat.le_of_ble_eq_true rfl) dX0_copyFrom_39 (fun H_4 locs hP1 hD1 hS1 => ?_)
  clear hP hD hS
  have hP : va_P G vwCl [(a, .inr (0, [.ref b, .int z])), (b, .inl (cI, 30, .inl (va_cpy f g 0 0 L.length))), (r, .inr (0, [.ref j, .int (nI L.length)])), (j, .inl (cI, 30, .inl f))] H_4 := hP1
  have hD : va_D A [(a, .inr (0, [.ref b, .int z])), (b, .inl (cI, 30, .inl (va_cpy f g 0 0 L.length))), (r, .inr (0, [.ref j, .int (nI L.length)])), (j, .inl (cI, 30, .inl f))] := hD1
  have hS := hS1
  clear hP1 hD1 hS1
  refine lv_aload_n hx hb dX0_copyFrom_42 rfl (lv_at hl 1 rfl) ?_
  refine lv_iload_n hx hb dX0_copyFrom_43 rfl (lv_at hl 0 rfl) ?_
  refine va_put (D := G) (ci := 0) (v := .int (nI L.length)) (ty := .int) (C := RX0) (T := TX0) (N := 2) hx hb hts iX0_copyFrom_X0 tyX0 tyX0_ok nmX0 hown hK hP hD hS 0 rfl rfl 1 (by decide) (hts (.fieldLink RX0 15 "GhostPantry$Row" "size" "I") (by decide +kernel)) (fun _ h9 => h9) rfl (by decide +kernel) rfl rfl (Nat.le_of_ble_eq_true rfl) dX0_copyFrom_44 (fun H_5 locs hP1 hD1 hS1 => ?_)
  clear hP hD hS
  have hP : va_P G vwCl [(a, .inr (0, [.ref b, .int (nI L.length)])), (b, .inl (cI, 30, .inl (va_cpy f g 0 0 L.length))), (r, .inr (0, [.ref j, .int (nI L.length)])), (j, .inl (cI, 30, .inl f))] H_5 := hP1
  have hD : va_D A [(a, .inr (0, [.ref b, .int (nI L.length)])), (b, .inl (cI, 30, .inl (va_cpy f g 0 0 L.length))), (r, .inr (0, [.ref j, .int (nI L.length)])), (j, .inl (cI, 30, .inl f))] := hD1
  have hS := hS1
  clear hP1 hD1 hS1
  have hP9 := hP.sub (ws' := [(a, .inr (0, [.ref b, .int (nI L.length)])), (b, .inl (cI, 30, .inl (va_cpy f g 0 0 L.length))), (r, .inr (0, [.ref j, .int (nI L.length)])), (j, .inl (cI, 30, .inl f))]) [0, 1, 2, 3] rfl
  have hD9 := hD.sub (ws' := [(a, .inr (0, [.ref b, .int (nI L.length)])), (b, .inl (cI, 30, .inl (va_cpy f g 0 0 L.length))), (r, .inr (0, [.ref j, .int (nI L.length)])), (j, .inl (cI, 30, .inl f))]) [0, 1, 2, 3] (by decide) rfl
  exact W.vret hx hb hr (fun t ht hW => ⟨⟨(), rfl, trivial, _, Rw_copy hR, g_at hP9 hK hD9 ht hW⟩, hS.F ht⟩) hS.2.2 dX0_copyFrom_47

set_option maxRecDepth 20000 in
theorem iX0_init_X0 : ∀ w ∈ wsX00, w ∈ wsX0_init := by decide +kernel
set_option maxHeartbeats 4000000 in
set_option maxRecDepth 100000 in
theorem c_X0_init (l : Launch) (G : va_G) (cI : ClassId) (r : Nat) (sz : Nat) : Met l yX0_init wsX0_init ({ frames := 1, cells := 1, slots := 30, locals := 12 }) (va_Pc [.ref r, .int (nI 30)] (gpre G [(cI, .int)] [(r, .inr (0, [.null, .int 0]))] sz)) (va_Qv (fun (_ : Unit) => True) (fun (_ : Unit) t => ∃ q : Nat, gat G [(cI, .int)] (va_A [(r, .inr (0, [.null, .int 0]))] sz) [(r, .inr (0, [.ref q, .int (nI 0)])), (q, .inl (cI, 30, .inl (fun _ => 0)))] t) (va_A [(r, .inr (0, [.null, .int 0]))] sz)) 1 30 (va_A [(r, .inr (0, [.null, .int 0]))] sz) := by
  refine Met.ofW (cc := cX0_init) (maxL := 2) (ret := none) (by decide) rfl ?_
  intro p e s m args below meth c s₁ B hml hv
  obtain ⟨rfl, hsz, hP, hK, hD0⟩ := hv
  have hx := B.exec
  have hb := B.bytes
  have hr := B.returns
  have hts := atoms_spec (ws := wsX0_init) B.pre
  have hown : s.vm.findClass RX0 = some m.cls := findClass_of_methodNamed B.named
  have hlocks := B.notSynchronized
  have hin : meth.name = "<init>" := (name_of_methodNamed B.named B.method).1
  subst hsz
  have hD := hD0.self (sz := s.heap.size)
  clear hD0
  generalize hAe : va_A [(r, .inr (0, [.null, .int 0]))] s.heap.size = A at hD ⊢
  have hA : ∀ q : Nat, s.heap.size ≤ q → A q := fun q h => by rw [← hAe]; exact Or.inr h
  have hS : va_S A s.heap s.heap [] := va_S.rf
  have hP : va_P G vwCl [(r, .inr (0, [.null, .int 0]))] s.heap := hP
  have hl := lv_entry ([.ref r, .int (nI 30)]) (n := 2) (Nat.le_of_ble_eq_true rfl)
  rw [lg_entry_eq]
  generalize (lg_sl ([.ref r, .int (nI 30)]) ++ List.replicate (2 - (lg_sl ([.ref r, .int (nI 30)])).length) Slot.unset).toArray = ls at hl ⊢
  have hl : lv_has ls 2 [(0, .ref r), (1, .int (nI 30))] := hl
  refine lv_aload_n hx hb dX0_init_0 rfl (lv_at hl 0 rfl) ?_
  refine W.objInit hx hb hown (hts (.methodLink RX0 3 objectInit) (by decide +kernel)) (hts (.instanceMethod objectInit) (by decide +kernel)) (hts (.code objectInit ⟨#[0xb1]⟩ 1 none) (by decide +kernel)) rfl (by rw [hml]; exact hl.1) rfl dX0_init_1 (Nat.le_of_ble_eq_true rfl) (Nat.le_of_ble_eq_true rfl) ?_
  refine W.eq (g2 := F0 m 4 ls []) rfl ?_
  refine lv_aload_n hx hb dX0_init_4 rfl (lv_at hl 0 rfl) ?_
  refine lv_iload_n hx hb dX0_init_5 rfl (lv_at hl 1 rfl) ?_
  refine g_if_ge (tgt := 13) hx hb dX0_init_6 (by decide) (by decide) ?_
  refine lv_iload_n hx hb dX0_init_13 rfl (lv_at hl 1 rfl) ?_
  refine g_newi hx hb (hts (.arrayClass .int) (by decide +kernel)) hK hP hD hS hA 0 rfl (by decide) (Nat.le_of_ble_eq_true rfl) (Nat.le_of_ble_eq_true rfl) dX0_init_14 (fun q_2 H_3 hP1 hD1 hS1 => ?_)
  clear hP hD hS
  have hP : va_P G vwCl [(r, .inr (0, [.null, .int 0])), (q_2, .inl (cI, 30, .inl (fun _ => 0)))] H_3 := hP1
  have hD : va_D A [(r, .inr (0, [.null, .int 0])), (q_2, .inl (cI, 30, .inl (fun _ => 0)))] := hD1
  have hS := hS1
  clear hP1 hD1 hS1
  refine va_putF (D := G) (ci := 0) (v := .ref q_2) (ty := (.array .int)) (C := RX0) (T := TX0) (N := 2) hx hb hts iX0_init_X0 tyX0 tyX0_ok nmX0 hown hK hP hD hS 0 rfl rfl 0 (by decide) (hts (.fieldLink RX0 9 "GhostPantry$Row" "jars" "[I") (by decide +kernel)) (fun _ h9 => h9) rfl hin rfl (by decide +kernel) rfl rfl (Nat.le_of_ble_eq_true rfl) dX0_init_16 (fun H_4 locs hP1 hD1 hS1 => ?_)
  clear hP hD hS
  have hP : va_P G vwCl [(r, .inr (0, [.ref q_2, .int 0])), (q_2, .inl (cI, 30, .inl (fun _ => 0)))] H_4 := hP1
  have hD : va_D A [(r, .inr (0, [.ref q_2, .int 0])), (q_2, .inl (cI, 30, .inl (fun _ => 0)))] := hD1
  have hS := hS1
  clear hP1 hD1 hS1
  refine lv_aload_n hx hb dX0_init_19 rfl (lv_at hl 0 rfl) ?_
  refine lv_iconst (v := (nI 0)) hx hb dX0_init_20 (by decide +kernel) ?_
  refine va_put (D := G) (ci := 0) (v := .int (nI 0)) (ty := .int) (C := RX0) (T := TX0) (N := 2) hx hb hts iX0_init_X0 tyX0 tyX0_ok nmX0 hown hK hP hD hS 0 rfl rfl 1 (by decide) (hts (.fieldLink RX0 15 "GhostPantry$Row" "size" "I") (by decide +kernel)) (fun _ h9 => h9) rfl (by decide +kernel) rfl rfl (Nat.le_of_ble_eq_true rfl) dX0_init_21 (fun H_5 locs hP1 hD1 hS1 => ?_)
  clear hP hD hS
  have hP : va_P G vwCl [(r, .inr (0, [.ref q_2, .int (nI 0)])), (q_2, .inl (cI, 30, .inl (fun _ => 0)))] H_5 := hP1
  have hD : va_D A [(r, .inr (0, [.ref q_2, .int (nI 0)])), (q_2, .inl (cI, 30, .inl (fun _ => 0)))] := hD1
  have hS := hS1
  clear hP1 hD1 hS1
  have hP9 := hP.sub (ws' := [(r, .inr (0, [.ref q_2, .int (nI 0)])), (q_2, .inl (cI, 30, .inl (fun _ => 0)))]) [0, 1] rfl
  have hD9 := hD.sub (ws' := [(r, .inr (0, [.ref q_2, .int (nI 0)])), (q_2, .inl (cI, 30, .inl (fun _ => 0)))]) [0, 1] (by decide) rfl
  exact W.vret hx hb hr (fun t ht hW => ⟨⟨(), rfl, trivial, q_2, g_at hP9 hK hD9 ht hW⟩, hS.F ht⟩) hS.2.2 dX0_init_24
