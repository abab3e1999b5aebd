theorem er_lo {M : List Int32} {i pl : Nat} (h : ¬ pl ≤ i) : (M.eraseIdx pl).getD i 0 = M.getD i 0 := by
  simp only [List.getD_eq_getElem?_getD, List.getElem?_eraseIdx]
  rw [if_pos (by omega)]
theorem er_hi {M : List Int32} {i pl : Nat} (h : pl ≤ i) : (M.eraseIdx pl).getD i 0 = M.getD (i + 1) 0 := by
  simp only [List.getD_eq_getElem?_getD, List.getElem?_eraseIdx]
  rw [if_neg (by omega)]
def swV (q : Q4) (i : Nat) : Int32 := if 2 < whr q (nI i) then nI 0 else nI (whr q (nI i))
theorem SQ.swp {fa fb fc : Nat → Int32} {ck : Nat} {L1 L2 L3 L4 : List Int32} (h : SQ fa fb ck (L1, L2, L3, L4)) (e : ∀ i, i < 30 → fc i = swV (L1, L2, L3, L4) i) : SQ fc fb ck (L1, L2, [], []) := by
  obtain ⟨S, e1, e2, ⟨s1, s2, s3, s4⟩, ⟨o1, o2, o3, o4⟩, hd⟩ := h
  refine ⟨S, fun j hj => ?_, e2, ⟨s1, s2, srt_nil, srt_nil⟩, ⟨o1, o2, ok_nil, ok_nil⟩, nd_sweep hd⟩
  rw [e j hj]
  unfold swV
  rcases whr_cases (L1, L2, L3, L4) (nI j) with ⟨w, m1, m2, m3, m4⟩ | ⟨w, m⟩ | ⟨w, m1, m⟩ | ⟨w, m1, m2, m⟩ | ⟨w, m1, m2, m3, m⟩
  · rw [if_neg (by omega), w]
    unfold whr
    rw [if_neg m1, if_neg m2, if_neg (by simp), if_neg (by simp)]
  · rw [if_neg (by omega), w]
    unfold whr
    rw [if_pos m]
  · rw [if_neg (by omega), w]
    unfold whr
    rw [if_neg m1, if_pos m]
  · rw [if_pos (by omega)]
    unfold whr
    rw [if_neg m1, if_neg m2, if_neg (by simp), if_neg (by simp)]
  · rw [if_pos (by omega)]
    unfold whr
    rw [if_neg m1, if_neg m2, if_neg (by simp), if_neg (by simp)]
theorem del1 {L1 L2 L3 L4 : List Int32} {x : Int32} (hd : Nd (L1, L2, L3, L4)) (w : whr (L1, L2, L3, L4) x = 1) : delq x (L1, L2, L3, L4) = (rmv L1 x, L2, L3, L4) := by
  obtain ⟨n1, n2, n3⟩ := (nd_parts hd x).1 ((whr_iff hd x).1.mp w)
  unfold delq
  rw [er_no n1, er_no n2, er_no n3, rmv_erase]
theorem del2 {L1 L2 L3 L4 : List Int32} {x : Int32} (hd : Nd (L1, L2, L3, L4)) (w : whr (L1, L2, L3, L4) x = 2) : delq x (L1, L2, L3, L4) = (L1, rmv L2 x, L3, L4) := by
  obtain ⟨n1, n2, n3⟩ := (nd_parts hd x).2.1 ((whr_iff hd x).2.1.mp w)
  unfold delq
  rw [er_no n1, er_no n2, er_no n3, rmv_erase]
theorem em_ok {n : Nat} {nA nH nP nM : Int32} {KA TA : Nat → Int32} (h1 : 1 ≤ n) (h2 : n ≤ 12) : StOk n ((([], [], [], []) : Q4), ([] : List Int32), 0, nA, nH, nP, nM, KA, TA) := ⟨⟨h1, h2, Nat.zero_le _, Nat.zero_le _, Nat.zero_le _, Nat.zero_le _⟩, ⟨ok_nil, ok_nil, ok_nil, ok_nil⟩, Nat.zero_le _, ok_nil⟩
theorem sweep_ok {rc bo : Nat} {L1 L2 L3 L4 P : List Int32} {nA nH nP nM : Int32} {KA TA : Nat → Int32} (h : StOk rc ((L1, L2, L3, L4), P, bo, nA, nH, nP, nM, KA, TA)) : StOk rc ((L1, L2, [], []), P, bo, nA, nH, nP, nM, KA, TA) := by
  obtain ⟨⟨h1, h2, h3, h4, h5, h6⟩, ⟨j1, j2, j3, j4⟩, hp, hq⟩ := h
  have h3 : bo ≤ rc := h3
  have h4 : L1.length + L2.length ≤ rc := h4
  exact ⟨⟨h1, h2, h3, h4, by show L1.length + 0 ≤ rc; omega, by show L1.length + L2.length + 0 + 0 ≤ 2 * rc; omega⟩, ⟨j1, j2, ok_nil, ok_nil⟩, hp, hq⟩
theorem spoil_ok {rc bo : Nat} {L1 L2 L3 L4 P : List Int32} {nA nH nP nM x : Int32} {KA TA : Nat → Int32} (h : StOk rc ((L1, L2, L3, L4), P, bo, nA, nH, nP, nM, KA, TA)) : StOk rc ((if whr (L1, L2, L3, L4) x = 1 then ((rmv L1 x, L2, L3, L4) : Q4) else (L1, rmv L2 x, L3, L4)), P, bo, nA, nH, nP, nM, KA, TA) := by
  obtain ⟨⟨h1, h2, h3, h4, h5, h6⟩, ⟨j1, j2, j3, j4⟩, hp, hq⟩ := h
  have l1 : (rmv L1 x).length ≤ L1.length := (List.eraseIdx_sublist _ _).length_le
  have l2 : (rmv L2 x).length ≤ L2.length := (List.eraseIdx_sublist _ _).length_le
  have h3 : bo ≤ rc := h3
  have h4 : L1.length + L2.length ≤ rc := h4
  have h5 : L1.length + L3.length ≤ rc := h5
  have h6 : L1.length + L2.length + L3.length + L4.length ≤ 2 * rc := h6
  by_cases w : whr (L1, L2, L3, L4) x = 1
  · rw [if_pos w]
    exact ⟨⟨h1, h2, h3, by show (rmv L1 x).length + L2.length ≤ rc; omega, by show (rmv L1 x).length + L3.length ≤ rc; omega, by show (rmv L1 x).length + L2.length + L3.length + L4.length ≤ 2 * rc; omega⟩, ⟨ok_rmv j1, j2, j3, j4⟩, hp, hq⟩
  · rw [if_neg w]
    exact ⟨⟨h1, h2, h3, by show L1.length + (rmv L2 x).length ≤ rc; omega, h5, by show L1.length + (rmv L2 x).length + L3.length + L4.length ≤ 2 * rc; omega⟩, ⟨j1, ok_rmv j2, j3, j4⟩, hp, hq⟩

section
variable {p : Program} {l : Launch} {e : Env} {R : Room} {s : State} {m : MethodId} {args : Array Value} {below : List Frame} {meth : Method} {c : Code} {H : Heap} {locs : List Loc} {cells slots : Nat} {Q : State → Prop}
variable {cc : ByteArray} {pc tgt : Nat} {ls : Array Slot} {rest st : List Value} {D : va_G} {cl : List vw_C} {A : Nat → Prop} {a : Nat} {tys : List (ClassId × FieldType)} {ws : va_W} {H0 : Heap}
/-- ways that meet -/
theorem g_joinh {P : Array Slot → Heap → List Loc → Prop} (k1 : (∀ ls H locs, P ls H locs → W p l e R s m args below meth c H locs cells slots Q (F0 m tgt ls [])) → W p l e R s m args below meth c H locs cells slots Q (F0 m pc ls st)) (k2 : ∀ ls H locs, P ls H locs → W p l e R s m args below meth c H locs cells slots Q (F0 m tgt ls [])) : W p l e R s m args below meth c H locs cells slots Q (F0 m pc ls st) := k1 k2
theorem g_lem (k2 : W p l e R s m args below meth c H locs cells slots Q (F0 m tgt ls [])) (k1 : W p l e R s m args below meth c H locs cells slots Q (F0 m tgt ls []) → W p l e R s m args below meth c H locs cells slots Q (F0 m pc ls st)) : W p l e R s m args below meth c H locs cells slots Q (F0 m pc ls st) := k1 k2
theorem g_sld (hexec : p.tables.exec = Jvm.exec) (hb : c.code = cc) {b L : Nat} {xs : Nat → Int32} (hX : va_X b L xs s H0) (hbl : b < H0.size) (hbA : ¬ A b) (hS : va_S A H0 H locs) {i : Nat} (hi : i < L) (hL : L ≤ 260) {v : Int32} (hv : xs i = v) (hdg : decode cc pc = .ok (.iaload, 1))
    (kk : W p l e R s m args below meth c H locs cells slots Q (F0 m (pc + 1) ls (.int v :: rest))) : W p l e R s m args below meth c H locs cells slots Q (F0 m pc ls (.int (nI i) :: .ref b :: rest)) :=
  va_sld hexec hb hX hbl hbA hS (vp_in_nI hi (by omega)) hdg (by rw [nI_clamp (by omega), hv]; exact kk)
/-- the script, as a method's start has it -/
def gC (b L : Nat) (xs : Nat → Int32) (A : Nat → Prop) (U : State) (H : Heap) : Prop := va_X b L xs U H ∧ b < H.size ∧ ¬ A b
theorem gC.into {b L : Nat} {xs : Nat → Int32} {A A' : Nat → Prop} {s U : State} {H : Heap} {locs : List Loc} (h : gC b L xs A s s.heap) (hS : va_S A s.heap H locs) (hA : ∀ q, A' q → A q) (hW : s.WarmedH U.vm) : gC b L xs A' U H :=
  ⟨va_X.moved hW.alike (h.1.kept (hS.2.1 b h.2.1 h.2.2)), Nat.lt_of_lt_of_le h.2.1 hS.1, fun z => h.2.2 (hA b z)⟩
def gpreC (b L : Nat) (xs : Nat → Int32) (G : va_G) (tys : List (ClassId × FieldType)) (ws : va_W) (sz : Nat) : State → Prop := fun U => gC b L xs (va_A ws sz) U U.heap ∧ gN U ∧ U.heap.size = sz ∧ va_P G vwCl ws U.heap ∧ va_K G vwCl tys U ∧ va_D (fun _ => True) ws
theorem gpreC_blind {b L : Nat} {xs : Nat → Int32} {av : List Value} {G : va_G} {sz : Nat} : FrameBlind (va_Pc av (gpreC b L xs G tys ws sz)) := fun a U g mk q => ⟨q.1, ⟨va_X.moved (u := U) (U := U.calling g mk a) (Vm.Alike.refl U.vm) q.2.1.1, q.2.1.2⟩, gN.same rfl q.2.2.1, q.2.2.2.1, q.2.2.2.2.1, va_K.moved (u := U) (U := U.calling g mk a) (Vm.Alike.refl U.vm) q.2.2.2.2.2.1, q.2.2.2.2.2.2⟩
theorem g_preSC {b L : Nat} {xs : Nat → Int32} {G : va_G} {A A0 : Nat → Prop} {As : List Value} {locs : List Loc} (hP : va_P G vwCl ws H) (hK : va_K G vwCl tys s) (hD : va_D A0 ws) (hN : gN s) (hX : gC b L xs A s s.heap) (hS : va_S A s.heap H locs) (hA : ∀ q, va_A ws H.size q → A q) : PreS s H (va_Pc As (gpreC b L xs G tys ws H.size)) As :=
  ⟨gpreC_blind, fun U hU hW => ⟨rfl, by rw [hU]; exact hX.into hS hA hW, gN.warm hW hN, by rw [hU], by rw [hU]; exact hP, va_K.moved hW.alike hK, hD.weaken (fun _ _ _ _ => trivial)⟩⟩
end
set_option maxHeartbeats 4000000 in
set_option maxRecDepth 100000 in
theorem c_L_below (l : Launch) (G : va_G) (cI : ClassId) (vv : Int32) (n : Nat) (h0 : 0 < n) (hn : n < 2 ^ 31) (sz : Nat) : Met l yL_below wsL_below ({ frames := 0, cells := 0, slots := 0, locals := 0 }) (va_Pc [.int vv, .int (nI n)] (gpre G [(cI, .int)] [] sz)) (va_Qi (fun (z : Int32) (u : Nat) => z = nI u ∧ u < n) (fun (_ : Nat) t => gat G [(cI, .int)] (va_A [] sz) [] t) (va_A [] sz)) 0 0 (va_A [] sz) := by
  refine Met.ofW (cc := cL_below) (maxL := 2) (ret := (some .int)) (by decide) rfl ?_
  intro p e s m args below meth c s₁ B hml hv
  obtain ⟨rfl, hsz, hP, hK, hD0⟩ := hv
  have hx := B.exec
  have hb := B.bytes
  have hr := B.returns
  have hts := atoms_spec (ws := wsL_below) B.pre
  have hown : s.vm.findClass RL = some m.cls := findClass_of_methodNamed B.named
  have hlocks := B.notSynchronized
  subst hsz
  have hD := hD0.self (sz := s.heap.size)
  clear hD0
  generalize hAe : va_A [] s.heap.size = A at hD ⊢
  have hA : ∀ q : Nat, s.heap.size ≤ q → A q := fun q h => by rw [← hAe]; exact Or.inr h
  have hS : va_S A s.heap s.heap [] := va_S.rf
  have hP : va_P G vwCl [] s.heap := hP
  have hl := lv_entry ([.int vv, .int (nI n)]) (n := 2) (Nat.le_of_ble_eq_true rfl)
  rw [lg_entry_eq]
  generalize (lg_sl ([.int vv, .int (nI n)]) ++ List.replicate (2 - (lg_sl ([.int vv, .int (nI n)])).length) Slot.unset).toArray = ls at hl ⊢
  have hl : lv_has ls 2 [(0, .int vv), (1, .int (nI n))] := hl
  refine lv_iload_n hx hb dL_below_0 rfl (lv_at hl 0 rfl) ?_
  refine lv_ldc (v := 2147483647) hx hb hown (hts (.constant RL 7 (2147483647)) (by decide +kernel)) dL_below_1 ?_
  refine lv_iand hx hb dL_below_3 ?_
  obtain ⟨t9, ht9, et9⟩ := pk_andE vv (m := 2147483647) 31 (by decide)
  refine g_top (y := nI t9) (et9) ?_
  refine lv_iload_n hx hb dL_below_4 rfl (lv_at hl 1 rfl) ?_
  refine lv_irem hx hb dL_below_5 (nI_ne0 (by omega) (by omega)) ?_
  refine g_top (y := nI (t9 % n)) (pk_rem (by omega) (by omega) (by omega)) ?_
  have hP9 := hP.sub (ws' := []) [] rfl
  have hD9 := hD.sub (ws' := []) [] (by decide) rfl
  exact W.iret (v := (nI (t9 % n))) hx hb hr (fun t ht hW => ⟨⟨(nI (t9 % n)), (t9 % n), rfl, ⟨rfl, Nat.mod_lt _ h0⟩, g_at hP9 hK hD9 ht hW⟩, hS.F ht⟩) hS.2.2 dL_below_6

set_option maxHeartbeats 4000000 in
set_option maxRecDepth 100000 in
theorem c_L_cell (l : Launch) (G : va_G) (cI : ClassId) (b L : Nat) (xs : Nat → Int32) (hL : L ≤ 260) (k : Nat) (hk : k < 16) (sz : Nat) : Met l yL_cell wsL_cell ({ frames := 0, cells := 0, slots := 0, locals := 0 }) (va_Pc [.ref b, .int (nI k)] (gpreC b L xs G [(cI, .int)] [] sz)) (va_Qi (fun (_ : Int32) (_ : Unit) => True) (fun (_ : Unit) t => gat G [(cI, .int)] (va_A [] sz) [] t) (va_A [] sz)) 0 0 (va_A [] sz) := by
  refine Met.ofW (cc := cL_cell) (maxL := 2) (ret := (some .int)) (by decide) rfl ?_
  intro p e s m args below meth c s₁ B hml hv
  obtain ⟨rfl, hX, hN, hsz, hP, hK, hD0⟩ := hv
  have hx := B.exec
  have hb := B.bytes
  have hr := B.returns
  have hts := atoms_spec (ws := wsL_cell) B.pre
  have hown : s.vm.findClass RL = some m.cls := findClass_of_methodNamed B.named
  have hlocks := B.notSynchronized
  subst hsz
  have hD := hD0.self (sz := s.heap.size)
  clear hD0
  generalize hAe : va_A [] s.heap.size = A at hD hX ⊢
  have hA : ∀ q : Nat, s.heap.size ≤ q → A q := fun q h => by rw [← hAe]; exact Or.inr h
  have hS : va_S A s.heap s.heap [] := va_S.rf
  have hP : va_P G vwCl [] s.heap := hP
  have hl := lv_entry ([.ref b, .int (nI k)]) (n := 2) (Nat.le_of_ble_eq_true rfl)
  rw [lg_entry_eq]
  generalize (lg_sl ([.ref b, .int (nI k)]) ++ List.replicate (2 - (lg_sl ([.ref b, .int (nI k)])).length) Slot.unset).toArray = ls at hl ⊢
  have hl : lv_has ls 2 [(0, .ref b), (1, .int (nI k))] := hl
  refine lv_iload_n hx hb dL_cell_0 rfl (lv_at hl 1 rfl) ?_
  refine lv_aload_n hx hb dL_cell_1 rfl (lv_at hl 0 rfl) ?_
  refine va_slen hx hb hX.1 hX.2.1 hX.2.2 hS dL_cell_2 ?_
  refine g_icmp_ge (tgt := 12) hx hb dL_cell_3 (by decide) (by omega) (by omega) (fun c_1 => ?_) (fun c_1 => ?_)
  · refine lv_ldc (v := 790386105) hx hb hown (hts (.constant RL 8 (790386105)) (by decide +kernel)) dL_cell_12 ?_
    refine lv_iload_n hx hb dL_cell_14 rfl (lv_at hl 1 rfl) ?_
    refine lv_iconst (v := (nI 3)) hx hb dL_cell_15 (by decide +kernel) ?_
    refine g_iadd hx hb dL_cell_16 ?_
    refine lv_imul hx hb dL_cell_17 ?_
    have hP9 := hP.sub (ws' := []) [] rfl
    have hD9 := hD.sub (ws' := []) [] (by decide) rfl
    exact W.iret (v := (790386105 * (nI (k + 3)))) hx hb hr (fun t ht hW => ⟨⟨(790386105 * (nI (k + 3))), (), rfl, trivial, g_at hP9 hK hD9 ht hW⟩, hS.F ht⟩) hS.2.2 dL_cell_18
  · refine lv_aload_n hx hb dL_cell_6 rfl (lv_at hl 0 rfl) ?_
    refine lv_iload_n hx hb dL_cell_7 rfl (lv_at hl 1 rfl) ?_
    refine g_sld hx hb hX.1 hX.2.1 hX.2.2 hS (i := k) (by omega) hL (v := (xs k)) rfl dL_cell_8 ?_
    refine lv_goto (tgt := 18) hx hb dL_cell_9 (by decide) ?_
    have hP9 := hP.sub (ws' := []) [] rfl
    have hD9 := hD.sub (ws' := []) [] (by decide) rfl
    exact W.iret (v := (xs k)) hx hb hr (fun t ht hW => ⟨⟨(xs k), (), rfl, trivial, g_at hP9 hK hD9 ht hW⟩, hS.F ht⟩) hS.2.2 dL_cell_18
