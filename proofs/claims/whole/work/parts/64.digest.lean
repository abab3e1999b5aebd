set_option maxRecDepth 20000 in
theorem iX2_digest_X2 : ∀ w ∈ wsX20, w ∈ wsX2_digest := by decide +kernel
set_option maxHeartbeats 4000000 in
set_option maxRecDepth 100000 in
theorem c_X2_digest (l : Launch) (G : va_G) (cI : ClassId) (gp sh r5 r6 aa ta ts t5 : Nat) (nA nH nP nM : Int32) (r1 r2 r3 r4 j1 j2 j3 j4 : Nat) (f1 f2 f3 f4 : Nat → Int32) (L1 L2 L3 L4 : List Int32) (rc bo : Nat) (lv : Int32) (hR1 : Rw f1 L1) (hR2 : Rw f2 L2) (hR3 : Rw f3 L3) (hR4 : Rw f4 L4) (j5 : Nat) (f5 : Nat → Int32) (P : List Int32) (hR5 : Rw f5 P) (j6 : Nat) (f6 : Nat → Int32) (M : List Int32) (hR6 : Rw f6 M) (KA TA : Nat → Int32)  (hn : Num rc bo (L1, L2, L3, L4)) (h3 : P.length ≤ rc) (hm1 : M.length ≤ 30) (sz : Nat) : Met l yX2_digest wsX2_digest ({ frames := 3, cells := 0, slots := 0, locals := 64 }) (va_Pc [.ref gp] (gpreN G [(cI, .int)] [(gp, .inr (2, [.ref sh, .ref r5, .ref r6, .ref aa, .ref ta, .int nA, .int nH, .int nP, .int nM, .ref ts, .ref t5])), (sh, .inr (1, [.ref r1, .ref r2, .ref r3, .ref r4, .int (nI rc), .int (nI bo), .int lv])), (r1, .inr (0, [.ref j1, .int (nI L1.length)])), (j1, .inl (cI, 30, .inl f1)), (r2, .inr (0, [.ref j2, .int (nI L2.length)])), (j2, .inl (cI, 30, .inl f2)), (r3, .inr (0, [.ref j3, .int (nI L3.length)])), (j3, .inl (cI, 30, .inl f3)), (r4, .inr (0, [.ref j4, .int (nI L4.length)])), (j4, .inl (cI, 30, .inl f4)), (r5, .inr (0, [.ref j5, .int (nI P.length)])), (j5, .inl (cI, 30, .inl f5)), (r6, .inr (0, [.ref j6, .int (nI M.length)])), (j6, .inl (cI, 30, .inl f6)), (aa, .inl (cI, 30, .inl KA)), (ta, .inl (cI, 30, .inl TA))] sz)) (va_Ql (fun (z : Int64) (_ : Unit) => z = dgs rc M ((L1, L2, L3, L4), P, bo, nA, nH, nP, nM, KA, TA)) (fun (_ : Unit) t => gat G [(cI, .int)] (va_A [(gp, .inr (2, [.ref sh, .ref r5, .ref r6, .ref aa, .ref ta, .int nA, .int nH, .int nP, .int nM, .ref ts, .ref t5])), (sh, .inr (1, [.ref r1, .ref r2, .ref r3, .ref r4, .int (nI rc), .int (nI bo), .int lv])), (r1, .inr (0, [.ref j1, .int (nI L1.length)])), (j1, .inl (cI, 30, .inl f1)), (r2, .inr (0, [.ref j2, .int (nI L2.length)])), (j2, .inl (cI, 30, .inl f2)), (r3, .inr (0, [.ref j3, .int (nI L3.length)])), (j3, .inl (cI, 30, .inl f3)), (r4, .inr (0, [.ref j4, .int (nI L4.length)])), (j4, .inl (cI, 30, .inl f4)), (r5, .inr (0, [.ref j5, .int (nI P.length)])), (j5, .inl (cI, 30, .inl f5)), (r6, .inr (0, [.ref j6, .int (nI M.length)])), (j6, .inl (cI, 30, .inl f6)), (aa, .inl (cI, 30, .inl KA)), (ta, .inl (cI, 30, .inl TA))] sz) [(gp, .inr (2, [.ref sh, .ref r5, .ref r6, .ref aa, .ref ta, .int nA, .int nH, .int nP, .int nM, .ref ts, .ref t5])), (sh, .inr (1, [.ref r1, .ref r2, .ref r3, .ref r4, .int (nI rc), .int (nI bo), .int lv])), (r1, .inr (0, [.ref j1, .int (nI L1.length)])), (j1, .inl (cI, 30, .inl f1)), (r2, .inr (0, [.ref j2, .int (nI L2.length)])), (j2, .inl (cI, 30, .inl f2)), (r3, .inr (0, [.ref j3, .int (nI L3.length)])), (j3, .inl (cI, 30, .inl f3)), (r4, .inr (0, [.ref j4, .int (nI L4.length)])), (j4, .inl (cI, 30, .inl f4)), (r5, .inr (0, [.ref j5, .int (nI P.length)])), (j5, .inl (cI, 30, .inl f5)), (r6, .inr (0, [.ref j6, .int (nI M.length)])), (j6, .inl (cI, 30, .inl f6)), (aa, .inl (cI, 30, .inl KA)), (ta, .inl (cI, 30, .inl TA))] t) (va_A [(gp, .inr (2, [.ref sh, .ref r5, .ref r6, .ref aa, .ref ta, .int nA, .int nH, .int nP, .int nM, .ref ts, .ref t5])), (sh, .inr (1, [.ref r1, .ref r2, .ref r3, .ref r4, .int (nI rc), .int (nI bo), .int lv])), (r1, .inr (0, [.ref j1, .int (nI L1.length)])), (j1, .inl (cI, 30, .inl f1)), (r2, .inr (0, [.ref j2, .int (nI L2.length)])), (j2, .inl (cI, 30, .inl f2)), (r3, .inr (0, [.ref j3, .int (nI L3.length)])), (j3, .inl (cI, 30, .inl f3)), (r4, .inr (0, [.ref j4, .int (nI L4.length)])), (j4, .inl (cI, 30, .inl f4)), (r5, .inr (0, [.ref j5, .int (nI P.length)])), (j5, .inl (cI, 30, .inl f5)), (r6, .inr (0, [.ref j6, .int (nI M.length)])), (j6, .inl (cI, 30, .inl f6)), (aa, .inl (cI, 30, .inl KA)), (ta, .inl (cI, 30, .inl TA))] sz)) 0 0 (va_A [(gp, .inr (2, [.ref sh, .ref r5, .ref r6, .ref aa, .ref ta, .int nA, .int nH, .int nP, .int nM, .ref ts, .ref t5])), (sh, .inr (1, [.ref r1, .ref r2, .ref r3, .ref r4, .int (nI rc), .int (nI bo), .int lv])), (r1, .inr (0, [.ref j1, .int (nI L1.length)])), (j1, .inl (cI, 30, .inl f1)), (r2, .inr (0, [.ref j2, .int (nI L2.length)])), (j2, .inl (cI, 30, .inl f2)), (r3, .inr (0, [.ref j3, .int (nI L3.length)])), (j3, .inl (cI, 30, .inl f3)), (r4, .inr (0, [.ref j4, .int (nI L4.length)])), (j4, .inl (cI, 30, .inl f4)), (r5, .inr (0, [.ref j5, .int (nI P.length)])), (j5, .inl (cI, 30, .inl f5)), (r6, .inr (0, [.ref j6, .int (nI M.length)])), (j6, .inl (cI, 30, .inl f6)), (aa, .inl (cI, 30, .inl KA)), (ta, .inl (cI, 30, .inl TA))] sz) := by
  refine Met.ofW (cc := cX2_digest) (maxL := 6) (ret := (some .long)) (by decide) rfl ?_
  intro p e s m args below meth c s₁ B hml hv
  obtain ⟨rfl, hN, hsz, hP, hK, hD0⟩ := hv
  have hx := B.exec
  have hb := B.bytes
  have hr := B.returns
  have hts := atoms_spec (ws := wsX2_digest) B.pre
  have hown : s.vm.findClass RX2 = some m.cls := findClass_of_methodNamed B.named
  have hlocks := B.notSynchronized
  subst hsz
  have hD := hD0.self (sz := s.heap.size)
  clear hD0
  generalize hAe : va_A [(gp, .inr (2, [.ref sh, .ref r5, .ref r6, .ref aa, .ref ta, .int nA, .int nH, .int nP, .int nM, .ref ts, .ref t5])), (sh, .inr (1, [.ref r1, .ref r2, .ref r3, .ref r4, .int (nI rc), .int (nI bo), .int lv])), (r1, .inr (0, [.ref j1, .int (nI L1.length)])), (j1, .inl (cI, 30, .inl f1)), (r2, .inr (0, [.ref j2, .int (nI L2.length)])), (j2, .inl (cI, 30, .inl f2)), (r3, .inr (0, [.ref j3, .int (nI L3.length)])), (j3, .inl (cI, 30, .inl f3)), (r4, .inr (0, [.ref j4, .int (nI L4.length)])), (j4, .inl (cI, 30, .inl f4)), (r5, .inr (0, [.ref j5, .int (nI P.length)])), (j5, .inl (cI, 30, .inl f5)), (r6, .inr (0, [.ref j6, .int (nI M.length)])), (j6, .inl (cI, 30, .inl f6)), (aa, .inl (cI, 30, .inl KA)), (ta, .inl (cI, 30, .inl TA))] s.heap.size = A at hD ⊢
  have hA : ∀ q : Nat, s.heap.size ≤ q → A q := fun q h => by rw [← hAe]; exact Or.inr h
  have hS : va_S A s.heap s.heap [] := va_S.rf
  have hP : va_P G vwCl [(gp, .inr (2, [.ref sh, .ref r5, .ref r6, .ref aa, .ref ta, .int nA, .int nH, .int nP, .int nM, .ref ts, .ref t5])), (sh, .inr (1, [.ref r1, .ref r2, .ref r3, .ref r4, .int (nI rc), .int (nI bo), .int lv])), (r1, .inr (0, [.ref j1, .int (nI L1.length)])), (j1, .inl (cI, 30, .inl f1)), (r2, .inr (0, [.ref j2, .int (nI L2.length)])), (j2, .inl (cI, 30, .inl f2)), (r3, .inr (0, [.ref j3, .int (nI L3.length)])), (j3, .inl (cI, 30, .inl f3)), (r4, .inr (0, [.ref j4, .int (nI L4.length)])), (j4, .inl (cI, 30, .inl f4)), (r5, .inr (0, [.ref j5, .int (nI P.length)])), (j5, .inl (cI, 30, .inl f5)), (r6, .inr (0, [.ref j6, .int (nI M.length)])), (j6, .inl (cI, 30, .inl f6)), (aa, .inl (cI, 30, .inl KA)), (ta, .inl (cI, 30, .inl TA))] s.heap := hP
  have hl := lv_entry ([.ref gp]) (n := 6) (Nat.le_of_ble_eq_true rfl)
  rw [lg_entry_eq]
  generalize (lg_sl ([.ref gp]) ++ List.replicate (6 - (lg_sl ([.ref gp])).length) Slot.unset).toArray = ls at hl ⊢
  have hl : lv_has ls 6 [(0, .ref gp)] := hl
  obtain ⟨hn1, hn2, hn3, hn4, hn5, hn6⟩ : 1 ≤ rc ∧ rc ≤ 12 ∧ bo ≤ rc ∧ L1.length + L2.length ≤ rc ∧ L1.length + L3.length ≤ rc ∧ L1.length + L2.length + L3.length + L4.length ≤ 2 * rc := id hn
  refine lv_ldc2 (v := 1427) hx hb hown (hts (.constantLong RX2 163 (1427)) (by decide +kernel)) dX2_digest_0 ?_
  refine lv_lstore_n (lv' := [(1, .long 1427), (0, .ref gp)]) hx hb dX2_digest_3 rfl hl (by decide) rfl (fun ls hl1 => ?_)
  clear hl
  have hl := hl1
  clear hl1
  refine lv_iconst (v := (nI 0)) hx hb dX2_digest_4 (by decide +kernel) ?_
  refine lv_istore_n (lv' := [(3, .int (nI 0)), (1, .long 1427), (0, .ref gp)]) hx hb dX2_digest_5 rfl hl (by decide) rfl (fun ls hl1 => ?_)
  clear hl
  have hl := hl1
  clear hl1
  refine lv_iload_n hx hb dX2_digest_6 rfl (lv_at hl 0 rfl) ?_
  refine lv_bipush (v := (nI 12)) hx hb dX2_digest_7 (by decide +kernel) ?_
  refine g_icmp_ge (tgt := 31) hx hb dX2_digest_9 (by decide) (by decide) (by decide) (fun c_1 => False.elim (by omega)) (fun c_1 => ?_)
  refine lv_lload_n hx hb dX2_digest_12 rfl (lv_at hl 1 rfl) ?_
  refine lv_ldc2 (v := 31) hx hb hown (hts (.constantLong RX2 165 (31)) (by decide +kernel)) dX2_digest_13 ?_
  refine lv_lmul hx hb dX2_digest_16 ?_
  refine lv_aload_n hx hb dX2_digest_17 rfl (lv_at hl 2 rfl) ?_
  refine lv_iload_n hx hb dX2_digest_18 rfl (lv_at hl 0 rfl) ?_
  have hPc := hP.sub (ws' := [(gp, .inr (2, [.ref sh, .ref r5, .ref r6, .ref aa, .ref ta, .int nA, .int nH, .int nP, .int nM, .ref ts, .ref t5])), (sh, .inr (1, [.ref r1, .ref r2, .ref r3, .ref r4, .int (nI rc), .int (nI bo), .int lv])), (r1, .inr (0, [.ref j1, .int (nI L1.length)])), (j1, .inl (cI, 30, .inl f1)), (r2, .inr (0, [.ref j2, .int (nI L2.length)])), (j2, .inl (cI, 30, .inl f2)), (r3, .inr (0, [.ref j3, .int (nI L3.length)])), (j3, .inl (cI, 30, .inl f3)), (r4, .inr (0, [.ref j4, .int (nI L4.length)])), (j4, .inl (cI, 30, .inl f4)), (r5, .inr (0, [.ref j5, .int (nI P.length)])), (j5, .inl (cI, 30, .inl f5)), (r6, .inr (0, [.ref j6, .int (nI M.length)])), (j6, .inl (cI, 30, .inl f6))]) [0, 1, 2, 3, 4, 5, 6, 7, 8, 9, 10, 11, 12, 13] rfl
  have hDc := hD.sub (ws' := [(gp, .inr (2, [.ref sh, .ref r5, .ref r6, .ref aa, .ref ta, .int nA, .int nH, .int nP, .int nM, .ref ts, .ref t5])), (sh, .inr (1, [.ref r1, .ref r2, .ref r3, .ref r4, .int (nI rc), .int (nI bo), .int lv])), (r1, .inr (0, [.ref j1, .int (nI L1.length)])), (j1, .inl (cI, 30, .inl f1)), (r2, .inr (0, [.ref j2, .int (nI L2.length)])), (j2, .inl (cI, 30, .inl f2)), (r3, .inr (0, [.ref j3, .int (nI L3.length)])), (j3, .inl (cI, 30, .inl f3)), (r4, .inr (0, [.ref j4, .int (nI L4.length)])), (j4, .inl (cI, 30, .inl f4)), (r5, .inr (0, [.ref j5, .int (nI P.length)])), (j5, .inl (cI, 30, .inl f5)), (r6, .inr (0, [.ref j6, .int (nI M.length)])), (j6, .inl (cI, 30, .inl f6))]) [0, 1, 2, 3, 4, 5, 6, 7, 8, 9, 10, 11, 12, 13] (by decide) rfl
  have hKc := hK.sub (tys' := [(cI, .int)]) [0] rfl
  have hFc := va_free (wc := [(gp, .inr (2, [.ref sh, .ref r5, .ref r6, .ref aa, .ref ta, .int nA, .int nH, .int nP, .int nM, .ref ts, .ref t5])), (sh, .inr (1, [.ref r1, .ref r2, .ref r3, .ref r4, .int (nI rc), .int (nI bo), .int lv])), (r1, .inr (0, [.ref j1, .int (nI L1.length)])), (j1, .inl (cI, 30, .inl f1)), (r2, .inr (0, [.ref j2, .int (nI L2.length)])), (j2, .inl (cI, 30, .inl f2)), (r3, .inr (0, [.ref j3, .int (nI L3.length)])), (j3, .inl (cI, 30, .inl f3)), (r4, .inr (0, [.ref j4, .int (nI L4.length)])), (j4, .inl (cI, 30, .inl f4)), (r5, .inr (0, [.ref j5, .int (nI P.length)])), (j5, .inl (cI, 30, .inl f5)), (r6, .inr (0, [.ref j6, .int (nI M.length)])), (j6, .inl (cI, 30, .inl f6))]) hD hS hA [0, 1, 2, 3, 4, 5, 6, 7, 8, 9, 10, 11, 12, 13] rfl
  refine va_calli (va_runV (As := [.int (nI 0)]) (rest := [.long (1427 * 31)]) ⟨hx, hb, hml, hown, hts⟩ (c_X2_count_0 l G cI gp sh r5 r6 aa ta ts t5 nA nH nP nM r1 r2 r3 r4 j1 j2 j3 j4 f1 f2 f3 f4 L1 L2 L3 L4 rc bo lv hR1 hR2 hR3 hR4 j5 f5 P hR5 j6 f6 M hR6 hn h3 hm1 s.heap.size) (cwV 1 hts gX2_digest_X2_count rfl rfl rfl (by decide +kernel) ⟨Nat.le_of_ble_eq_true rfl, Nat.le_of_ble_eq_true rfl⟩) (g_preVN (As := [.int (nI 0)]) hPc hKc hDc 0 rfl rfl hN) rfl rfl hl.1 rfl (lv_room (Nat.le_of_ble_eq_true rfl)) dX2_digest_19 ⟨(Nat.le_of_ble_eq_true rfl), (Nat.le_of_ble_eq_true rfl)⟩) hS (fun q _ h => hFc q h) hFc (fun r_3 u_4 t H_2 locs ht hvm hw hB hz1 hk1 hS1 => ?_)
  have hw := hw.symm
  subst hw
  obtain ⟨hP1, hD1⟩ := g_join (wc := [(gp, .inr (2, [.ref sh, .ref r5, .ref r6, .ref aa, .ref ta, .int nA, .int nH, .int nP, .int nM, .ref ts, .ref t5])), (sh, .inr (1, [.ref r1, .ref r2, .ref r3, .ref r4, .int (nI rc), .int (nI bo), .int lv])), (r1, .inr (0, [.ref j1, .int (nI L1.length)])), (j1, .inl (cI, 30, .inl f1)), (r2, .inr (0, [.ref j2, .int (nI L2.length)])), (j2, .inl (cI, 30, .inl f2)), (r3, .inr (0, [.ref j3, .int (nI L3.length)])), (j3, .inl (cI, 30, .inl f3)), (r4, .inr (0, [.ref j4, .int (nI L4.length)])), (j4, .inl (cI, 30, .inl f4)), (r5, .inr (0, [.ref j5, .int (nI P.length)])), (j5, .inl (cI, 30, .inl f5)), (r6, .inr (0, [.ref j6, .int (nI M.length)])), (j6, .inl (cI, 30, .inl f6))]) (wr := [(aa, .inl (cI, 30, .inl KA)), (ta, .inl (cI, 30, .inl TA))]) (w1 := [(gp, .inr (2, [.ref sh, .ref r5, .ref r6, .ref aa, .ref ta, .int nA, .int nH, .int nP, .int nM, .ref ts, .ref t5])), (sh, .inr (1, [.ref r1, .ref r2, .ref r3, .ref r4, .int (nI rc), .int (nI bo), .int lv])), (r1, .inr (0, [.ref j1, .int (nI L1.length)])), (j1, .inl (cI, 30, .inl f1)), (r2, .inr (0, [.ref j2, .int (nI L2.length)])), (j2, .inl (cI, 30, .inl f2)), (r3, .inr (0, [.ref j3, .int (nI L3.length)])), (j3, .inl (cI, 30, .inl f3)), (r4, .inr (0, [.ref j4, .int (nI L4.length)])), (j4, .inl (cI, 30, .inl f4)), (r5, .inr (0, [.ref j5, .int (nI P.length)])), (j5, .inl (cI, 30, .inl f5)), (r6, .inr (0, [.ref j6, .int (nI M.length)])), (j6, .inl (cI, 30, .inl f6))]) hP hD [0, 1, 2, 3, 4, 5, 6, 7, 8, 9, 10, 11, 12, 13] [14, 15] rfl rfl (by decide) (by decide) ht hk1 hFc hB
  clear hB hk1 hz1 hvm ht hPc hDc hKc hFc
  clear hP hD hS
  have hP : va_P G vwCl [(aa, .inl (cI, 30, .inl KA)), (ta, .inl (cI, 30, .inl TA)), (gp, .inr (2, [.ref sh, .ref r5, .ref r6, .ref aa, .ref ta, .int nA, .int nH, .int nP, .int nM, .ref ts, .ref t5])), (sh, .inr (1, [.ref r1, .ref r2, .ref r3, .ref r4, .int (nI rc), .int (nI bo), .int lv])), (r1, .inr (0, [.ref j1, .int (nI L1.length)])), (j1, .inl (cI, 30, .inl f1)), (r2, .inr (0, [.ref j2, .int (nI L2.length)])), (j2, .inl (cI, 30, .inl f2)), (r3, .inr (0, [.ref j3, .int (nI L3.length)])), (j3, .inl (cI, 30, .inl f3)), (r4, .inr (0, [.ref j4, .int (nI L4.length)])), (j4, .inl (cI, 30, .inl f4)), (r5, .inr (0, [.ref j5, .int (nI P.length)])), (j5, .inl (cI, 30, .inl f5)), (r6, .inr (0, [.ref j6, .int (nI M.length)])), (j6, .inl (cI, 30, .inl f6))] H_2 := hP1
  have hD : va_D A [(aa, .inl (cI, 30, .inl KA)), (ta, .inl (cI, 30, .inl TA)), (gp, .inr (2, [.ref sh, .ref r5, .ref r6, .ref aa, .ref ta, .int nA, .int nH, .int nP, .int nM, .ref ts, .ref t5])), (sh, .inr (1, [.ref r1, .ref r2, .ref r3, .ref r4, .int (nI rc), .int (nI bo), .int lv])), (r1, .inr (0, [.ref j1, .int (nI L1.length)])), (j1, .inl (cI, 30, .inl f1)), (r2, .inr (0, [.ref j2, .int (nI L2.length)])), (j2, .inl (cI, 30, .inl f2)), (r3, .inr (0, [.ref j3, .int (nI L3.length)])), (j3, .inl (cI, 30, .inl f3)), (r4, .inr (0, [.ref j4, .int (nI L4.length)])), (j4, .inl (cI, 30, .inl f4)), (r5, .inr (0, [.ref j5, .int (nI P.length)])), (j5, .inl (cI, 30, .inl f5)), (r6, .inr (0, [.ref j6, .int (nI M.length)])), (j6, .inl (cI, 30, .inl f6))] := hD1
  have hS := hS1
  clear hP1 hD1 hS1
  refine lv_i2l hx hb dX2_digest_22 rfl ?_
  refine lv_ladd hx hb dX2_digest_23 ?_
  refine lv_lstore_n (lv' := [(1, .long (dg 1427 ((nI rc)))), (3, .int (nI 0)), (0, .ref gp)]) hx hb dX2_digest_24 rfl hl (by decide) rfl (fun ls hl1 => ?_)
  clear hl
  have hl := hl1
  clear hl1
  refine lv_iinc (v := (nI 1)) (lv' := [(3, .int (nI 1)), (1, .long (dg 1427 ((nI rc)))), (0, .ref gp)]) hx hb dX2_digest_25 hl (k := 1) rfl (by decide +kernel) (by decide) rfl (fun ls hl => ?_)
  refine lv_goto (tgt := 6) hx hb dX2_digest_28 (by decide) ?_
  refine lv_iload_n hx hb dX2_digest_6 rfl (lv_at hl 0 rfl) ?_
  refine lv_bipush (v := (nI 12)) hx hb dX2_digest_7 (by decide +kernel) ?_
  refine g_icmp_ge (tgt := 31) hx hb dX2_digest_9 (by decide) (by decide) (by decide) (fun c_5 => False.elim (by omega)) (fun c_5 => ?_)
  refine lv_lload_n hx hb dX2_digest_12 rfl (lv_at hl 1 rfl) ?_
  refine lv_ldc2 (v := 31) hx hb hown (hts (.constantLong RX2 165 (31)) (by decide +kernel)) dX2_digest_13 ?_
  refine lv_lmul hx hb dX2_digest_16 ?_
  refine lv_aload_n hx hb dX2_digest_17 rfl (lv_at hl 2 rfl) ?_
  refine lv_iload_n hx hb dX2_digest_18 rfl (lv_at hl 0 rfl) ?_
  have hPc := hP.sub (ws' := [(gp, .inr (2, [.ref sh, .ref r5, .ref r6, .ref aa, .ref ta, .int nA, .int nH, .int nP, .int nM, .ref ts, .ref t5])), (sh, .inr (1, [.ref r1, .ref r2, .ref r3, .ref r4, .int (nI rc), .int (nI bo), .int lv])), (r1, .inr (0, [.ref j1, .int (nI L1.length)])), (j1, .inl (cI, 30, .inl f1)), (r2, .inr (0, [.ref j2, .int (nI L2.length)])), (j2, .inl (cI, 30, .inl f2)), (r3, .inr (0, [.ref j3, .int (nI L3.length)])), (j3, .inl (cI, 30, .inl f3)), (r4, .inr (0, [.ref j4, .int (nI L4.length)])), (j4, .inl (cI, 30, .inl f4)), (r5, .inr (0, [.ref j5, .int (nI P.length)])), (j5, .inl (cI, 30, .inl f5)), (r6, .inr (0, [.ref j6, .int (nI M.length)])), (j6, .inl (cI, 30, .inl f6))]) [2, 3, 4, 5, 6, 7, 8, 9, 10, 11, 12, 13, 14, 15] rfl
  have hDc := hD.sub (ws' := [(gp, .inr (2, [.ref sh, .ref r5, .ref r6, .ref aa, .ref ta, .int nA, .int nH, .int nP, .int nM, .ref ts, .ref t5])), (sh, .inr (1, [.ref r1, .ref r2, .ref r3, .ref r4, .int (nI rc), .int (nI bo), .int lv])), (r1, .inr (0, [.ref j1, .int (nI L1.length)])), (j1, .inl (cI, 30, .inl f1)), (r2, .inr (0, [.ref j2, .int (nI L2.length)])), (j2, .inl (cI, 30, .inl f2)), (r3, .inr (0, [.ref j3, .int (nI L3.length)])), (j3, .inl (cI, 30, .inl f3)), (r4, .inr (0, [.ref j4, .int (nI L4.length)])), (j4, .inl (cI, 30, .inl f4)), (r5, .inr (0, [.ref j5, .int (nI P.length)])), (j5, .inl (cI, 30, .inl f5)), (r6, .inr (0, [.ref j6, .int (nI M.length)])), (j6, .inl (cI, 30, .inl f6))]) [2, 3, 4, 5, 6, 7, 8, 9, 10, 11, 12, 13, 14, 15] (by decide) rfl
  have hKc := hK.sub (tys' := [(cI, .int)]) [0] rfl
  have hFc := va_free (wc := [(gp, .inr (2, [.ref sh, .ref r5, .ref r6, .ref aa, .ref ta, .int nA, .int nH, .int nP, .int nM, .ref ts, .ref t5])), (sh, .inr (1, [.ref r1, .ref r2, .ref r3, .ref r4, .int (nI rc), .int (nI bo), .int lv])), (r1, .inr (0, [.ref j1, .int (nI L1.length)])), (j1, .inl (cI, 30, .inl f1)), (r2, .inr (0, [.ref j2, .int (nI L2.length)])), (j2, .inl (cI, 30, .inl f2)), (r3, .inr (0, [.ref j3, .int (nI L3.length)])), (j3, .inl (cI, 30, .inl f3)), (r4, .inr (0, [.ref j4, .int (nI L4.length)])), (j4, .inl (cI, 30, .inl f4)), (r5, .inr (0, [.ref j5, .int (nI P.length)])), (j5, .inl (cI, 30, .inl f5)), (r6, .inr (0, [.ref j6, .int (nI M.length)])), (j6, .inl (cI, 30, .inl f6))]) hD hS hA [2, 3, 4, 5, 6, 7, 8, 9, 10, 11, 12, 13, 14, 15] rfl
  refine va_calli (va_runV (As := [.int (nI 1)]) (rest := [.long ((dg 1427 ((nI rc))) * 31)]) ⟨hx, hb, hml, hown, hts⟩ (c_X2_count_1 l G cI gp sh r5 r6 aa ta ts t5 nA nH nP nM r1 r2 r3 r4 j1 j2 j3 j4 f1 f2 f3 f4 L1 L2 L3 L4 rc bo lv hR1 hR2 hR3 hR4 j5 f5 P hR5 j6 f6 M hR6 hn h3 hm1 H_2.size) (cwV 1 hts gX2_digest_X2_count rfl rfl rfl (by decide +kernel) ⟨Nat.le_of_ble_eq_true rfl, Nat.le_of_ble_eq_true rfl⟩) (g_preVN (As := [.int (nI 1)]) hPc hKc hDc 0 rfl rfl hN) rfl rfl hl.1 rfl (lv_room (Nat.le_of_ble_eq_true rfl)) dX2_digest_19 ⟨(Nat.le_of_ble_eq_true rfl), (Nat.le_of_ble_eq_true rfl)⟩) hS (fun q _ h => hFc q h) hFc (fun r_7 u_8 t H_6 locs ht hvm hw hB hz1 hk1 hS1 => ?_)
  have hw := hw.symm
  subst hw
  obtain ⟨hP1, hD1⟩ := g_join (wc := [(gp, .inr (2, [.ref sh, .ref r5, .ref r6, .ref aa, .ref ta, .int nA, .int nH, .int nP, .int nM, .ref ts, .ref t5])), (sh, .inr (1, [.ref r1, .ref r2, .ref r3, .ref r4, .int (nI rc), .int (nI bo), .int lv])), (r1, .inr (0, [.ref j1, .int (nI L1.length)])), (j1, .inl (cI, 30, .inl f1)), (r2, .inr (0, [.ref j2, .int (nI L2.length)])), (j2, .inl (cI, 30, .inl f2)), (r3, .inr (0, [.ref j3, .int (nI L3.length)])), (j3, .inl (cI, 30, .inl f3)), (r4, .inr (0, [.ref j4, .int (nI L4.length)])), (j4, .inl (cI, 30, .inl f4)), (r5, .inr (0, [.ref j5, .int (nI P.length)])), (j5, .inl (cI, 30, .inl f5)), (r6, .inr (0, [.ref j6, .int (nI M.length)])), (j6, .inl (cI, 30, .inl f6))]) (wr := [(aa, .inl (cI, 30, .inl KA)), (ta, .inl (cI, 30, .inl TA))]) (w1 := [(gp, .inr (2, [.ref sh, .ref r5, .ref r6, .ref aa, .ref ta, .int nA, .int nH, .int nP, .int nM, .ref ts, .ref t5])), (sh, .inr (1, [.ref r1, .ref r2, .ref r3, .ref r4, .int (nI rc), .int (nI bo), .int lv])), (r1, .inr (0, [.ref j1, .int (nI L1.length)])), (j1, .inl (cI, 30, .inl f1)), (r2, .inr (0, [.ref j2, .int (nI L2.length)])), (j2, .inl (cI, 30, .inl f2)), (r3, .inr (0, [.ref j3, .int (nI L3.length)])), (j3, .inl (cI, 30, .inl f3)), (r4, .inr (0, [.ref j4, .int (nI L4.length)])), (j4, .inl (cI, 30, .inl f4)), (r5, .inr (0, [.ref j5, .int (nI P.length)])), (j5, .inl (cI, 30, .inl f5)), (r6, .inr (0, [.ref j6, .int (nI M.length)])), (j6, .inl (cI, 30, .inl f6))]) hP hD [2, 3, 4, 5, 6, 7, 8, 9, 10, 11, 12, 13, 14, 15] [0, 1] rfl rfl (by decide) (by decide) ht hk1 hFc hB
  clear hB hk1 hz1 hvm ht hPc hDc hKc hFc
  clear hP hD hS
  have hP : va_P G vwCl [(aa, .inl (cI, 30, .inl KA)), (ta, .inl (cI, 30, .inl TA)), (gp, .inr (2, [.ref sh, .ref r5, .ref r6, .ref aa, .ref ta, .int nA, .int nH, .int nP, .int nM, .ref ts, .ref t5])), (sh, .inr (1, [.ref r1, .ref r2, .ref r3, .ref r4, .int (nI rc), .int (nI bo), .int lv])), (r1, .inr (0, [.ref j1, .int (nI L1.length)])), (j1, .inl (cI, 30, .inl f1)), (r2, .inr (0, [.ref j2, .int (nI L2.length)])), (j2, .inl (cI, 30, .inl f2)), (r3, .inr (0, [.ref j3, .int (nI L3.length)])), (j3, .inl (cI, 30, .inl f3)), (r4, .inr (0, [.ref j4, .int (nI L4.length)])), (j4, .inl (cI, 30, .inl f4)), (r5, .inr (0, [.ref j5, .int (nI P.length)])), (j5, .inl (cI, 30, .inl f5)), (r6, .inr (0, [.ref j6, .int (nI M.length)])), (j6, .inl (cI, 30, .inl f6))] H_6 := hP1
  have hD : va_D A [(aa, .inl (cI, 30, .inl KA)), (ta, .inl (cI, 30, .inl TA)), (gp, .inr (2, [.ref sh, .ref r5, .ref r6, .ref aa, .ref ta, .int nA, .int nH, .int nP, .int nM, .ref ts, .ref t5])), (sh, .inr (1, [.ref r1, .ref r2, .ref r3, .ref r4, .int (nI rc), .int (nI bo), .int lv])), (r1, .inr (0, [.ref j1, .int (nI L1.length)])), (j1, .inl (cI, 30, .inl f1)), (r2, .inr (0, [.ref j2, .int (nI L2.length)])), (j2, .inl (cI, 30, .inl f2)), (r3, .inr (0, [.ref j3, .int (nI L3.length)])), (j3, .inl (cI, 30, .inl f3)), (r4, .inr (0, [.ref j4, .int (nI L4.length)])), (j4, .inl (cI, 30, .inl f4)), (r5, .inr (0, [.ref j5, .int (nI P.length)])), (j5, .inl (cI, 30, .inl f5)), (r6, .inr (0, [.ref j6, .int (nI M.length)])), (j6, .inl (cI, 30, .inl f6))] := hD1
  have hS := hS1
  clear hP1 hD1 hS1
  refine lv_i2l hx hb dX2_digest_22 rfl ?_
  refine lv_ladd hx hb dX2_digest_23 ?_
  refine lv_lstore_n (lv' := [(1, .long (dg (dg 1427 ((nI rc))) ((nI L1.length)))), (3, .int (nI 1)), (0, .ref gp)]) hx hb dX2_digest_24 rfl hl (by decide) rfl (fun ls hl1 => ?_)
  clear hl
  have hl := hl1
  clear hl1
  refine lv_iinc (v := (nI 2)) (lv' := [(3, .int (nI 2)), (1, .long (dg (dg 1427 ((nI rc))) ((nI L1.length)))), (0, .ref gp)]) hx hb dX2_digest_25 hl (k := 1) rfl (by decide +kernel) (by decide) rfl (fun ls hl => ?_)
  refine lv_goto (tgt := 6) hx hb dX2_digest_28 (by decide) ?_
  refine lv_iload_n hx hb dX2_digest_6 rfl (lv_at hl 0 rfl) ?_
  refine lv_bipush (v := (nI 12)) hx hb dX2_digest_7 (by decide +kernel) ?_
  refine g_icmp_ge (tgt := 31) hx hb dX2_digest_9 (by decide) (by decide) (by decide) (fun c_9 => False.elim (by omega)) (fun c_9 => ?_)
  refine lv_lload_n hx hb dX2_digest_12 rfl (lv_at hl 1 rfl) ?_
  refine lv_ldc2 (v := 31) hx hb hown (hts (.constantLong RX2 165 (31)) (by decide +kernel)) dX2_digest_13 ?_
  refine lv_lmul hx hb dX2_digest_16 ?_
  refine lv_aload_n hx hb dX2_digest_17 rfl (lv_at hl 2 rfl) ?_
  refine lv_iload_n hx hb dX2_digest_18 rfl (lv_at hl 0 rfl) ?_
  have hPc := hP.sub (ws' := [(gp, .inr (2, [.ref sh, .ref r5, .ref r6, .ref aa, .ref ta, .int nA, .int nH, .int nP, .int nM, .ref ts, .ref t5])), (sh, .inr (1, [.ref r1, .ref r2, .ref r3, .ref r4, .int (nI rc), .int (nI bo), .int lv])), (r1, .inr (0, [.ref j1, .int (nI L1.length)])), (j1, .inl (cI, 30, .inl f1)), (r2, .inr (0, [.ref j2, .int (nI L2.length)])), (j2, .inl (cI, 30, .inl f2)), (r3, .inr (0, [.ref j3, .int (nI L3.length)])), (j3, .inl (cI, 30, .inl f3)), (r4, .inr (0, [.ref j4, .int (nI L4.length)])), (j4, .inl (cI, 30, .inl f4)), (r5, .inr (0, [.ref j5, .int (nI P.length)])), (j5, .inl (cI, 30, .inl f5)), (r6, .inr (0, [.ref j6, .int (nI M.length)])), (j6, .inl (cI, 30, .inl f6))]) [2, 3, 4, 5, 6, 7, 8, 9, 10, 11, 12, 13, 14, 15] rfl
  have hDc := hD.sub (ws' := [(gp, .inr (2, [.ref sh, .ref r5, .ref r6, .ref aa, .ref ta, .int nA, .int nH, .int nP, .int nM, .ref ts, .ref t5])), (sh, .inr (1, [.ref r1, .ref r2, .ref r3, .ref r4, .int (nI rc), .int (nI bo), .int lv])), (r1, .inr (0, [.ref j1, .int (nI L1.length)])), (j1, .inl (cI, 30, .inl f1)), (r2, .inr (0, [.ref j2, .int (nI L2.length)])), (j2, .inl (cI, 30, .inl f2)), (r3, .inr (0, [.ref j3, .int (nI L3.length)])), (j3, .inl (cI, 30, .inl f3)), (r4, .inr (0, [.ref j4, .int (nI L4.length)])), (j4, .inl (cI, 30, .inl f4)), (r5, .inr (0, [.ref j5, .int (nI P.length)])), (j5, .inl (cI, 30, .inl f5)), (r6, .inr (0, [.ref j6, .int (nI M.length)])), (j6, .inl (cI, 30, .inl f6))]) [2, 3, 4, 5, 6, 7, 8, 9, 10, 11, 12, 13, 14, 15] (by decide) rfl
  have hKc := hK.sub (tys' := [(cI, .int)]) [0] rfl
  have hFc := va_free (wc := [(gp, .inr (2, [.ref sh, .ref r5, .ref r6, .ref aa, .ref ta, .int nA, .int nH, .int nP, .int nM, .ref ts, .ref t5])), (sh, .inr (1, [.ref r1, .ref r2, .ref r3, .ref r4, .int (nI rc), .int (nI bo), .int lv])), (r1, .inr (0, [.ref j1, .int (nI L1.length)])), (j1, .inl (cI, 30, .inl f1)), (r2, .inr (0, [.ref j2, .int (nI L2.length)])), (j2, .inl (cI, 30, .inl f2)), (r3, .inr (0, [.ref j3, .int (nI L3.length)])), (j3, .inl (cI, 30, .inl f3)), (r4, .inr (0, [.ref j4, .int (nI L4.length)])), (j4, .inl (cI, 30, .inl f4)), (r5, .inr (0, [.ref j5, .int (nI P.length)])), (j5, .inl (cI, 30, .inl f5)), (r6, .inr (0, [.ref j6, .int (nI M.length)])), (j6, .inl (cI, 30, .inl f6))]) hD hS hA [2, 3, 4, 5, 6, 7, 8, 9, 10, 11, 12, 13, 14, 15] rfl
  refine va_calli (va_runV (As := [.int (nI 2)]) (rest := [.long ((dg (dg 1427 ((nI rc))) ((nI L1.length))) * 31)]) ⟨hx, hb, hml, hown, hts⟩ (c_X2_count_2 l G cI gp sh r5 r6 aa ta ts t5 nA nH nP nM r1 r2 r3 r4 j1 j2 j3 j4 f1 f2 f3 f4 L1 L2 L3 L4 rc bo lv hR1 hR2 hR3 hR4 j5 f5 P hR5 j6 f6 M hR6 hn h3 hm1 H_6.size) (cwV 1 hts gX2_digest_X2_count rfl rfl rfl (by decide +kernel) ⟨Nat.le_of_ble_eq_true rfl, Nat.le_of_ble_eq_true rfl⟩) (g_preVN (As := [.int (nI 2)]) hPc hKc hDc 0 rfl rfl hN) rfl rfl hl.1 rfl (lv_room (Nat.le_of_ble_eq_true rfl)) dX2_digest_19 ⟨(Nat.le_of_ble_eq_true rfl), (Nat.le_of_ble_eq_true rfl)⟩) hS (fun q _ h => hFc q h) hFc (fun r_11 u_12 t H_10 locs ht hvm hw hB hz1 hk1 hS1 => ?_)
  have hw := hw.symm
  subst hw
  obtain ⟨hP1, hD1⟩ := g_join (wc := [(gp, .inr (2, [.ref sh, .ref r5, .ref r6, .ref aa, .ref ta, .int nA, .int nH, .int nP, .int nM, .ref ts, .ref t5])), (sh, .inr (1, [.ref r1, .ref r2, .ref r3, .ref r4, .int (nI rc), .int (nI bo), .int lv])), (r1, .inr (0, [.ref j1, .int (nI L1.length)])), (j1, .inl (cI, 30, .inl f1)), (r2, .inr (0, [.ref j2, .int (nI L2.length)])), (j2, .inl (cI, 30, .inl f2)), (r3, .inr (0, [.ref j3, .int (nI L3.length)])), (j3, .inl (cI, 30, .inl f3)), (r4, .inr (0, [.ref j4, .int (nI L4.length)])), (j4, .inl (cI, 30, .inl f4)), (r5, .inr (0, [.ref j5, .int (nI P.length)])), (j5, .inl (cI, 30, .inl f5)), (r6, .inr (0, [.ref j6, .int (nI M.length)])), (j6, .inl (cI, 30, .inl f6))]) (wr := [(aa, .inl (cI, 30, .inl KA)), (ta, .inl (cI, 30, .inl TA))]) (w1 := [(gp, .inr (2, [.ref sh, .ref r5, .ref r6, .ref aa, .ref ta, .int nA, .int nH, .int nP, .int nM, .ref ts, .ref t5])), (sh, .inr (1, [.ref r1, .ref r2, .ref r3, .ref r4, .int (nI rc), .int (nI bo), .int lv])), (r1, .inr (0, [.ref j1, .int (nI L1.length)])), (j1, .inl (cI, 30, .inl f1)), (r2, .inr (0, [.ref j2, .int (nI L2.length)])), (j2, .inl (cI, 30, .inl f2)), (r3, .inr (0, [.ref j3, .int (nI L3.length)])), (j3, .inl (cI, 30, .inl f3)), (r4, .inr (0, [.ref j4, .int (nI L4.length)])), (j4, .inl (cI, 30, .inl f4)), (r5, .inr (0, [.ref j5, .int (nI P.length)])), (j5, .inl (cI, 30, .inl f5)), (r6, .inr (0, [.ref j6, .int (nI M.length)])), (j6, .inl (cI, 30, .inl f6))]) hP hD [2, 3, 4, 5, 6, 7, 8, 9, 10, 11, 12, 13, 14, 15] [0, 1] rfl rfl (by decide) (by decide) ht hk1 hFc hB
  clear hB hk1 hz1 hvm ht hPc hDc hKc hFc
  clear hP hD hS
  have hP : va_P G vwCl [(aa, .inl (cI, 30, .inl KA)), (ta, .inl (cI, 30, .inl TA)), (gp, .inr (2, [.ref sh, .ref r5, .ref r6, .ref aa, .ref ta, .int nA, .int nH, .int nP, .int nM, .ref ts, .ref t5])), (sh, .inr (1, [.ref r1, .ref r2, .ref r3, .ref r4, .int (nI rc), .int (nI bo), .int lv])), (r1, .inr (0, [.ref j1, .int (nI L1.length)])), (j1, .inl (cI, 30, .inl f1)), (r2, .inr (0, [.ref j2, .int (nI L2.length)])), (j2, .inl (cI, 30, .inl f2)), (r3, .inr (0, [.ref j3, .int (nI L3.length)])), (j3, .inl (cI, 30, .inl f3)), (r4, .inr (0, [.ref j4, .int (nI L4.length)])), (j4, .inl (cI, 30, .inl f4)), (r5, .inr (0, [.ref j5, .int (nI P.length)])), (j5, .inl (cI, 30, .inl f5)), (r6, .inr (0, [.ref j6, .int (nI M.length)])), (j6, .inl (cI, 30, .inl f6))] H_10 := hP1
  have hD : va_D A [(aa, .inl (cI, 30, .inl KA)), (ta, .inl (cI, 30, .inl TA)), (gp, .inr (2, [.ref sh, .ref r5, .ref r6, .ref aa, .ref ta, .int nA, .int nH, .int nP, .int nM, .ref ts, .ref t5])), (sh, .inr (1, [.ref r1, .ref r2, .ref r3, .ref r4, .int (nI rc), .int (nI bo), .int lv])), (r1, .inr (0, [.ref j1, .int (nI L1.length)])), (j1, .inl (cI, 30, .inl f1)), (r2, .inr (0, [.ref j2, .int (nI L2.length)])), (j2, .inl (cI, 30, .inl f2)), (r3, .inr (0, [.ref j3, .int (nI L3.length)])), (j3, .inl (cI, 30, .inl f3)), (r4, .inr (0, [.ref j4, .int (nI L4.length)])), (j4, .inl (cI, 30, .inl f4)), (r5, .inr (0, [.ref j5, .int (nI P.length)])), (j5, .inl (cI, 30, .inl f5)), (r6, .inr (0, [.ref j6, .int (nI M.length)])), (j6, .inl (cI, 30, .inl f6))] := hD1
  have hS := hS1
  clear hP1 hD1 hS1
  refine lv_i2l hx hb dX2_digest_22 rfl ?_
  refine lv_ladd hx hb dX2_digest_23 ?_
  refine lv_lstore_n (lv' := [(1, .long (dg (dg (dg 1427 ((nI rc))) ((nI L1.length))) ((nI L2.length)))), (3, .int (nI 2)), (0, .ref gp)]) hx hb dX2_digest_24 rfl hl (by decide) rfl (fun ls hl1 => ?_)
  clear hl
  have hl := hl1
  clear hl1
  refine lv_iinc (v := (nI 3)) (lv' := [(3, .int (nI 3)), (1, .long (dg (dg (dg 1427 ((nI rc))) ((nI L1.length))) ((nI L2.length)))), (0, .ref gp)]) hx hb dX2_digest_25 hl (k := 1) rfl (by decide +kernel) (by decide) rfl (fun ls hl => ?_)
  refine lv_goto (tgt := 6) hx hb dX2_digest_28 (by decide) ?_
  refine lv_iload_n hx hb dX2_digest_6 rfl (lv_at hl 0 rfl) ?_
  refine lv_bipush (v := (nI 12)) hx hb dX2_digest_7 (by decide +kernel) ?_
  refine g_icmp_ge (tgt := 31) hx hb dX2_digest_9 (by decide) (by decide) (by decide) (fun c_13 => False.elim (by omega)) (fun c_13 => ?_)
  refine lv_lload_n hx hb dX2_digest_12 rfl (lv_at hl 1 rfl) ?_
  refine lv_ldc2 (v := 31) hx hb hown (hts (.constantLong RX2 165 (31)) (by decide +kernel)) dX2_digest_13 ?_
  refine lv_lmul hx hb dX2_digest_16 ?_
  refine lv_aload_n hx hb dX2_digest_17 rfl (lv_at hl 2 rfl) ?_
  refine lv_iload_n hx hb dX2_digest_18 rfl (lv_at hl 0 rfl) ?_
  have hPc := hP.sub (ws' := [(gp, .inr (2, [.ref sh, .ref r5, .ref r6, .ref aa, .ref ta, .int nA, .int nH, .int nP, .int nM, .ref ts, .ref t5])), (sh, .inr (1, [.ref r1, .ref r2, .ref r3, .ref r4, .int (nI rc), .int (nI bo), .int lv])), (r1, .inr (0, [.ref j1, .int (nI L1.length)])), (j1, .inl (cI, 30, .inl f1)), (r2, .inr (0, [.ref j2, .int (nI L2.length)])), (j2, .inl (cI, 30, .inl f2)), (r3, .inr (0, [.ref j3, .int (nI L3.length)])), (j3, .inl (cI, 30, .inl f3)), (r4, .inr (0, [.ref j4, .int (nI L4.length)])), (j4, .inl (cI, 30, .inl f4)), (r5, .inr (0, [.ref j5, .int (nI P.length)])), (j5, .inl (cI, 30, .inl f5)), (r6, .inr (0, [.ref j6, .int (nI M.length)])), (j6, .inl (cI, 30, .inl f6))]) [2, 3, 4, 5, 6, 7, 8, 9, 10, 11, 12, 13, 14, 15] rfl
  have hDc := hD.sub (ws' := [(gp, .inr (2, [.ref sh, .ref r5, .ref r6, .ref aa, .ref ta, .int nA, .int nH, .int nP, .int nM, .ref ts, .ref t5])), (sh, .inr (1, [.ref r1, .ref r2, .ref r3, .ref r4, .int (nI rc), .int (nI bo), .int lv])), (r1, .inr (0, [.ref j1, .int (nI L1.length)])), (j1, .inl (cI, 30, .inl f1)), (r2, .inr (0, [.ref j2, .int (nI L2.length)])), (j2, .inl (cI, 30, .inl f2)), (r3, .inr (0, [.ref j3, .int (nI L3.length)])), (j3, .inl (cI, 30, .inl f3)), (r4, .inr (0, [.ref j4, .int (nI L4.length)])), (j4, .inl (cI, 30, .inl f4)), (r5, .inr (0, [.ref j5, .int (nI P.length)])), (j5, .inl (cI, 30, .inl f5)), (r6, .inr (0, [.ref j6, .int (nI M.length)])), (j6, .inl (cI, 30, .inl f6))]) [2, 3, 4, 5, 6, 7, 8, 9, 10, 11, 12, 13, 14, 15] (by decide) rfl
  have hKc := hK.sub (tys' := [(cI, .int)]) [0] rfl
  have hFc := va_free (wc := [(gp, .inr (2, [.ref sh, .ref r5, .ref r6, .ref aa, .ref ta, .int nA, .int nH, .int nP, .int nM, .ref ts, .ref t5])), (sh, .inr (1, [.ref r1, .ref r2, .ref r3, .ref r4, .int (nI rc), .int (nI bo), .int lv])), (r1, .inr (0, [.ref j1, .int (nI L1.length)])), (j1, .inl (cI, 30, .inl f1)), (r2, .inr (0, [.ref j2, .int (nI L2.length)])), (j2, .inl (cI, 30, .inl f2)), (r3, .inr (0, [.ref j3, .int (nI L3.length)])), (j3, .inl (cI, 30, .inl f3)), (r4, .inr (0, [.ref j4, .int (nI L4.length)])), (j4, .inl (cI, 30, .inl f4)), (r5, .inr (0, [.ref j5, .int (nI P.length)])), (j5, .inl (cI, 30, .inl f5)), (r6, .inr (0, [.ref j6, .int (nI M.length)])), (j6, .inl (cI, 30, .inl f6))]) hD hS hA [2, 3, 4, 5, 6, 7, 8, 9, 10, 11, 12, 13, 14, 15] rfl
  refine va_calli (va_runV (As := [.int (nI 3)]) (rest := [.long ((dg (dg (dg 1427 ((nI rc))) ((nI L1.length))) ((nI L2.length))) * 31)]) ⟨hx, hb, hml, hown, hts⟩ (c_X2_count_3 l G cI gp sh r5 r6 aa ta ts t5 nA nH nP nM r1 r2 r3 r4 j1 j2 j3 j4 f1 f2 f3 f4 L1 L2 L3 L4 rc bo lv hR1 hR2 hR3 hR4 j5 f5 P hR5 j6 f6 M hR6 hn h3 hm1 H_10.size) (cwV 1 hts gX2_digest_X2_count rfl rfl rfl (by decide +kernel) ⟨Nat.le_of_ble_eq_true rfl, Nat.le_of_ble_eq_true rfl⟩) (g_preVN (As := [.int (nI 3)]) hPc hKc hDc 0 rfl rfl hN) rfl rfl hl.1 rfl (lv_room (Nat.le_of_ble_eq_true rfl)) dX2_digest_19 ⟨(Nat.le_of_ble_eq_true rfl), (Nat.le_of_ble_eq_true rfl)⟩) hS (fun q _ h => hFc q h) hFc (fun r_15 u_16 t H_14 locs ht hvm hw hB hz1 hk1 hS1 => ?_)
  have hw := hw.symm
  subst hw
  obtain ⟨hP1, hD1⟩ := g_join (wc := [(gp, .inr (2, [.ref sh, .ref r5, .ref r6, .ref aa, .ref ta, .int nA, .int nH, .int nP, .int nM, .ref ts, .ref t5])), (sh, .inr (1, [.ref r1, .ref r2, .ref r3, .ref r4, .int (nI rc), .int (nI bo), .int lv])), (r1, .inr (0, [.ref j1, .int (nI L1.length)])), (j1, .inl (cI, 30, .inl f1)), (r2, .inr (0, [.ref j2, .int (nI L2.length)])), (j2, .inl (cI, 30, .inl f2)), (r3, .inr (0, [.ref j3, .int (nI L3.length)])), (j3, .inl (cI, 30, .inl f3)), (r4, .inr (0, [.ref j4, .int (nI L4.length)])), (j4, .inl (cI, 30, .inl f4)), (r5, .inr (0, [.ref j5, .int (nI P.length)])), (j5, .inl (cI, 30, .inl f5)), (r6, .inr (0, [.ref j6, .int (nI M.length)])), (j6, .inl (cI, 30, .inl f6))]) (wr := [(aa, .inl (cI, 30, .inl KA)), (ta, .inl (cI, 30, .inl TA))]) (w1 := [(gp, .inr (2, [.ref sh, .ref r5, .ref r6, .ref aa, .ref ta, .int nA, .int nH, .int nP, .int nM, .ref ts, .ref t5])), (sh, .inr (1, [.ref r1, .ref r2, .ref r3, .ref r4, .int (nI rc), .int (nI bo), .int lv])), (r1, .inr (0, [.ref j1, .int (nI L1.length)])), (j1, .inl (cI, 30, .inl f1)), (r2, .inr (0, [.ref j2, .int (nI L2.length)])), (j2, .inl (cI, 30, .inl f2)), (r3, .inr (0, [.ref j3, .int (nI L3.length)])), (j3, .inl (cI, 30, .inl f3)), (r4, .inr (0, [.ref j4, .int (nI L4.length)])), (j4, .inl (cI, 30, .inl f4)), (r5, .inr (0, [.ref j5, .int (nI P.length)])), (j5, .inl (cI, 30, .inl f5)), (r6, .inr (0, [.ref j6, .int (nI M.length)])), (j6, .inl (cI, 30, .inl f6))]) hP hD [2, 3, 4, 5, 6, 7, 8, 9, 10, 11, 12, 13, 14, 15] [0, 1] rfl rfl (by decide) (by decide) ht hk1 hFc hB
  clear hB hk1 hz1 hvm ht hPc hDc hKc hFc
  clear hP hD hS
  have hP : va_P G vwCl [(aa, .inl (cI, 30, .inl KA)), (ta, .inl (cI, 30, .inl TA)), (gp, .inr (2, [.ref sh, .ref r5, .ref r6, .ref aa, .ref ta, .int nA, .int nH, .int nP, .int nM, .ref ts, .ref t5])), (sh, .inr (1, [.ref r1, .ref r2, .ref r3, .ref r4, .int (nI rc), .int (nI bo), .int lv])), (r1, .inr (0, [.ref j1, .int (nI L1.length)])), (j1, .inl (cI, 30, .inl f1)), (r2, .inr (0, [.ref j2, .int (nI L2.length)])), (j2, .inl (cI, 30, .inl f2)), (r3, .inr (0, [.ref j3, .int (nI L3.length)])), (j3, .inl (cI, 30, .inl f3)), (r4, .inr (0, [.ref j4, .int (nI L4.length)])), (j4, .inl (cI, 30, .inl f4)), (r5, .inr (0, [.ref j5, .int (nI P.length)])), (j5, .inl (cI, 30, .inl f5)), (r6, .inr (0, [.ref j6, .int (nI M.length)])), (j6, .inl (cI, 30, .inl f6))] H_14 := hP1
  have hD : va_D A [(aa, .inl (cI, 30, .inl KA)), (ta, .inl (cI, 30, .inl TA)), (gp, .inr (2, [.ref sh, .ref r5, .ref r6, .ref aa, .ref ta, .int nA, .int nH, .int nP, .int nM, .ref ts, .ref t5])), (sh, .inr (1, [.ref r1, .ref r2, .ref r3, .ref r4, .int (nI rc), .int (nI bo), .int lv])), (r1, .inr (0, [.ref j1, .int (nI L1.length)])), (j1, .inl (cI, 30, .inl f1)), (r2, .inr (0, [.ref j2, .int (nI L2.length)])), (j2, .inl (cI, 30, .inl f2)), (r3, .inr (0, [.ref j3, .int (nI L3.length)])), (j3, .inl (cI, 30, .inl f3)), (r4, .inr (0, [.ref j4, .int (nI L4.length)])), (j4, .inl (cI, 30, .inl f4)), (r5, .inr (0, [.ref j5, .int (nI P.length)])), (j5, .inl (cI, 30, .inl f5)), (r6, .inr (0, [.ref j6, .int (nI M.length)])), (j6, .inl (cI, 30, .inl f6))] := hD1
  have hS := hS1
  clear hP1 hD1 hS1
  refine lv_i2l hx hb dX2_digest_22 rfl ?_
  refine lv_ladd hx hb dX2_digest_23 ?_
  refine lv_lstore_n (lv' := [(1, .long (dg (dg (dg (dg 1427 ((nI rc))) ((nI L1.length))) ((nI L2.length))) ((nI L3.length)))), (3, .int (nI 3)), (0, .ref gp)]) hx hb dX2_digest_24 rfl hl (by decide) rfl (fun ls hl1 => ?_)
  clear hl
  have hl := hl1
  clear hl1
  refine lv_iinc (v := (nI 4)) (lv' := [(3, .int (nI 4)), (1, .long (dg (dg (dg (dg 1427 ((nI rc))) ((nI L1.length))) ((nI L2.length))) ((nI L3.length)))), (0, .ref gp)]) hx hb dX2_digest_25 hl (k := 1) rfl (by decide +kernel) (by decide) rfl (fun ls hl => ?_)
  refine lv_goto (tgt := 6) hx hb dX2_digest_28 (by decide) ?_
  refine lv_iload_n hx hb dX2_digest_6 rfl (lv_at hl 0 rfl) ?_
  refine lv_bipush (v := (nI 12)) hx hb dX2_digest_7 (by decide +kernel) ?_
  refine g_icmp_ge (tgt := 31) hx hb dX2_digest_9 (by decide) (by decide) (by decide) (fun c_17 => False.elim (by omega)) (fun c_17 => ?_)
  refine lv_lload_n hx hb dX2_digest_12 rfl (lv_at hl 1 rfl) ?_
  refine lv_ldc2 (v := 31) hx hb hown (hts (.constantLong RX2 165 (31)) (by decide +kernel)) dX2_digest_13 ?_
  refine lv_lmul hx hb dX2_digest_16 ?_
  refine lv_aload_n hx hb dX2_digest_17 rfl (lv_at hl 2 rfl) ?_
  refine lv_iload_n hx hb dX2_digest_18 rfl (lv_at hl 0 rfl) ?_
  have hPc := hP.sub (ws' := [(gp, .inr (2, [.ref sh, .ref r5, .ref r6, .ref aa, .ref ta, .int nA, .int nH, .int nP, .int nM, .ref ts, .ref t5])), (sh, .inr (1, [.ref r1, .ref r2, .ref r3, .ref r4, .int (nI rc), .int (nI bo), .int lv])), (r1, .inr (0, [.ref j1, .int (nI L1.length)])), (j1, .inl (cI, 30, .inl f1)), (r2, .inr (0, [.ref j2, .int (nI L2.length)])), (j2, .inl (cI, 30, .inl f2)), (r3, .inr (0, [.ref j3, .int (nI L3.length)])), (j3, .inl (cI, 30, .inl f3)), (r4, .inr (0, [.ref j4, .int (nI L4.length)])), (j4, .inl (cI, 30, .inl f4)), (r5, .inr (0, [.ref j5, .int (nI P.length)])), (j5, .inl (cI, 30, .inl f5)), (r6, .inr (0, [.ref j6, .int (nI M.length)])), (j6, .inl (cI, 30, .inl f6))]) [2, 3, 4, 5, 6, 7, 8, 9, 10, 11, 12, 13, 14, 15] rfl
  have hDc := hD.sub (ws' := [(gp, .inr (2, [.ref sh, .ref r5, .ref r6, .ref aa, .ref ta, .int nA, .int nH, .int nP, .int nM, .ref ts, .ref t5])), (sh, .inr (1, [.ref r1, .ref r2, .ref r3, .ref r4, .int (nI rc), .int (nI bo), .int lv])), (r1, .inr (0, [.ref j1, .int (nI L1.length)])), (j1, .inl (cI, 30, .inl f1)), (r2, .inr (0, [.ref j2, .int (nI L2.length)])), (j2, .inl (cI, 30, .inl f2)), (r3, .inr (0, [.ref j3, .int (nI L3.length)])), (j3, .inl (cI, 30, .inl f3)), (r4, .inr (0, [.ref j4, .int (nI L4.length)])), (j4, .inl (cI, 30, .inl f4)), (r5, .inr (0, [.ref j5, .int (nI P.length)])), (j5, .inl (cI, 30, .inl f5)), (r6, .inr (0, [.ref j6, .int (nI M.length)])), (j6, .inl (cI, 30, .inl f6))]) [2, 3, 4, 5, 6, 7, 8, 9, 10, 11, 12, 13, 14, 15] (by decide) rfl
  have hKc := hK.sub (tys' := [(cI, .int)]) [0] rfl
  have hFc := va_free (wc := [(gp, .inr (2, [.ref sh, .ref r5, .ref r6, .ref aa, .ref ta, .int nA, .int nH, .int nP, .int nM, .ref ts, .ref t5])), (sh, .inr (1, [.ref r1, .ref r2, .ref r3, .ref r4, .int (nI rc), .int (nI bo), .int lv])), (r1, .inr (0, [.ref j1, .int (nI L1.length)])), (j1, .inl (cI, 30, .inl f1)), (r2, .inr (0, [.ref j2, .int (nI L2.length)])), (j2, .inl (cI, 30, .inl f2)), (r3, .inr (0, [.ref j3, .int (nI L3.length)])), (j3, .inl (cI, 30, .inl f3)), (r4, .inr (0, [.ref j4, .int (nI L4.length)])), (j4, .inl (cI, 30, .inl f4)), (r5, .inr (0, [.ref j5, .int (nI P.length)])), (j5, .inl (cI, 30, .inl f5)), (r6, .inr (0, [.ref j6, .int (nI M.length)])), (j6, .inl (cI, 30, .inl f6))]) hD hS hA [2, 3, 4, 5, 6, 7, 8, 9, 10, 11, 12, 13, 14, 15] rfl
  refine va_calli (va_runV (As := [.int (nI 4)]) (rest := [.long ((dg (dg (dg (dg 1427 ((nI rc))) ((nI L1.length))) ((nI L2.length))) ((nI L3.length))) * 31)]) ⟨hx, hb, hml, hown, hts⟩ (c_X2_count_4 l G cI gp sh r5 r6 aa ta ts t5 nA nH nP nM r1 r2 r3 r4 j1 j2 j3 j4 f1 f2 f3 f4 L1 L2 L3 L4 rc bo lv hR1 hR2 hR3 hR4 j5 f5 P hR5 j6 f6 M hR6 hn h3 hm1 H_14.size) (cwV 1 hts gX2_digest_X2_count rfl rfl rfl (by decide +kernel) ⟨Nat.le_of_ble_eq_true rfl, Nat.le_of_ble_eq_true rfl⟩) (g_preVN (As := [.int (nI 4)]) hPc hKc hDc 0 rfl rfl hN) rfl rfl hl.1 rfl (lv_room (Nat.le_of_ble_eq_true rfl)) dX2_digest_19 ⟨(Nat.le_of_ble_eq_true rfl), (Nat.le_of_ble_eq_true rfl)⟩) hS (fun q _ h => hFc q h) hFc (fun r_19 u_20 t H_18 locs ht hvm hw hB hz1 hk1 hS1 => ?_)
  have hw := hw.symm
  subst hw
  obtain ⟨hP1, hD1⟩ := g_join (wc := [(gp, .inr (2, [.ref sh, .ref r5, .ref r6, .ref aa, .ref ta, .int nA, .int nH, .int nP, .int nM, .ref ts, .ref t5])), (sh, .inr (1, [.ref r1, .ref r2, .ref r3, .ref r4, .int (nI rc), .int (nI bo), .int lv])), (r1, .inr (0, [.ref j1, .int (nI L1.length)])), (j1, .inl (cI, 30, .inl f1)), (r2, .inr (0, [.ref j2, .int (nI L2.length)])), (j2, .inl (cI, 30, .inl f2)), (r3, .inr (0, [.ref j3, .int (nI L3.length)])), (j3, .inl (cI, 30, .inl f3)), (r4, .inr (0, [.ref j4, .int (nI L4.length)])), (j4, .inl (cI, 30, .inl f4)), (r5, .inr (0, [.ref j5, .int (nI P.length)])), (j5, .inl (cI, 30, .inl f5)), (r6, .inr (0, [.ref j6, .int (nI M.length)])), (j6, .inl (cI, 30, .inl f6))]) (wr := [(aa, .inl (cI, 30, .inl KA)), (ta, .inl (cI, 30, .inl TA))]) (w1 := [(gp, .inr (2, [.ref sh, .ref r5, .ref r6, .ref aa, .ref ta, .int nA, .int nH, .int nP, .int nM, .ref ts, .ref t5])), (sh, .inr (1, [.ref r1, .ref r2, .ref r3, .ref r4, .int (nI rc), .int (nI bo), .int lv])), (r1, .inr (0, [.ref j1, .int (nI L1.length)])), (j1, .inl (cI, 30, .inl f1)), (r2, .inr (0, [.ref j2, .int (nI L2.length)])), (j2, .inl (cI, 30, .inl f2)), (r3, .inr (0, [.ref j3, .int (nI L3.length)])), (j3, .inl (cI, 30, .inl f3)), (r4, .inr (0, [.ref j4, .int (nI L4.length)])), (j4, .inl (cI, 30, .inl f4)), (r5, .inr (0, [.ref j5, .int (nI P.length)])), (j5, .inl (cI, 30, .inl f5)), (r6, .inr (0, [.ref j6, .int (nI M.length)])), (j6, .inl (cI, 30, .inl f6))]) hP hD [2, 3, 4, 5, 6, 7, 8, 9, 10, 11, 12, 13, 14, 15] [0, 1] rfl rfl (by decide) (by decide) ht hk1 hFc hB
  clear hB hk1 hz1 hvm ht hPc hDc hKc hFc
  clear hP hD hS
  have hP : va_P G vwCl [(aa, .inl (cI, 30, .inl KA)), (ta, .inl (cI, 30, .inl TA)), (gp, .inr (2, [.ref sh, .ref r5, .ref r6, .ref aa, .ref ta, .int nA, .int nH, .int nP, .int nM, .ref ts, .ref t5])), (sh, .inr (1, [.ref r1, .ref r2, .ref r3, .ref r4, .int (nI rc), .int (nI bo), .int lv])), (r1, .inr (0, [.ref j1, .int (nI L1.length)])), (j1, .inl (cI, 30, .inl f1)), (r2, .inr (0, [.ref j2, .int (nI L2.length)])), (j2, .inl (cI, 30, .inl f2)), (r3, .inr (0, [.ref j3, .int (nI L3.length)])), (j3, .inl (cI, 30, .inl f3)), (r4, .inr (0, [.ref j4, .int (nI L4.length)])), (j4, .inl (cI, 30, .inl f4)), (r5, .inr (0, [.ref j5, .int (nI P.length)])), (j5, .inl (cI, 30, .inl f5)), (r6, .inr (0, [.ref j6, .int (nI M.length)])), (j6, .inl (cI, 30, .inl f6))] H_18 := hP1
  have hD : va_D A [(aa, .inl (cI, 30, .inl KA)), (ta, .inl (cI, 30, .inl TA)), (gp, .inr (2, [.ref sh, .ref r5, .ref r6, .ref aa, .ref ta, .int nA, .int nH, .int nP, .int nM, .ref ts, .ref t5])), (sh, .inr (1, [.ref r1, .ref r2, .ref r3, .ref r4, .int (nI rc), .int (nI bo), .int lv])), (r1, .inr (0, [.ref j1, .int (nI L1.length)])), (j1, .inl (cI, 30, .inl f1)), (r2, .inr (0, [.ref j2, .int (nI L2.length)])), (j2, .inl (cI, 30, .inl f2)), (r3, .inr (0, [.ref j3, .int (nI L3.length)])), (j3, .inl (cI, 30, .inl f3)), (r4, .inr (0, [.ref j4, .int (nI L4.length)])), (j4, .inl (cI, 30, .inl f4)), (r5, .inr (0, [.ref j5, .int (nI P.length)])), (j5, .inl (cI, 30, .inl f5)), (r6, .inr (0, [.ref j6, .int (nI M.length)])), (j6, .inl (cI, 30, .inl f6))] := hD1
  have hS := hS1
  clear hP1 hD1 hS1
  refine lv_i2l hx hb dX2_digest_22 rfl ?_
  refine lv_ladd hx hb dX2_digest_23 ?_
  refine lv_lstore_n (lv' := [(1, .long (dg (dg (dg (dg (dg 1427 ((nI rc))) ((nI L1.length))) ((nI L2.length))) ((nI L3.length))) ((nI L4.length)))), (3, .int (nI 4)), (0, .ref gp)]) hx hb dX2_digest_24 rfl hl (by decide) rfl (fun ls hl1 => ?_)
  clear hl
  have hl := hl1
  clear hl1
  refine lv_iinc (v := (nI 5)) (lv' := [(3, .int (nI 5)), (1, .long (dg (dg (dg (dg (dg 1427 ((nI rc))) ((nI L1.length))) ((nI L2.length))) ((nI L3.length))) ((nI L4.length)))), (0, .ref gp)]) hx hb dX2_digest_25 hl (k := 1) rfl (by decide +kernel) (by decide) rfl (fun ls hl => ?_)
  refine lv_goto (tgt := 6) hx hb dX2_digest_28 (by decide) ?_
  refine lv_iload_n hx hb dX2_digest_6 rfl (lv_at hl 0 rfl) ?_
  refine lv_bipush (v := (nI 12)) hx hb dX2_digest_7 (by decide +kernel) ?_
  refine g_icmp_ge (tgt := 31) hx hb dX2_digest_9 (by decide) (by decide) (by decide) (fun c_21 => False.elim (by omega)) (fun c_21 => ?_)
  refine lv_lload_n hx hb dX2_digest_12 rfl (lv_at hl 1 rfl) ?_
  refine lv_ldc2 (v := 31) hx hb hown (hts (.constantLong RX2 165 (31)) (by decide +kernel)) dX2_digest_13 ?_
  refine lv_lmul hx hb dX2_digest_16 ?_
  refine lv_aload_n hx hb dX2_digest_17 rfl (lv_at hl 2 rfl) ?_
  refine lv_iload_n hx hb dX2_digest_18 rfl (lv_at hl 0 rfl) ?_
  have hPc := hP.sub (ws' := [(gp, .inr (2, [.ref sh, .ref r5, .ref r6, .ref aa, .ref ta, .int nA, .int nH, .int nP, .int nM, .ref ts, .ref t5])), (sh, .inr (1, [.ref r1, .ref r2, .ref r3, .ref r4, .int (nI rc), .int (nI bo), .int lv])), (r1, .inr (0, [.ref j1, .int (nI L1.length)])), (j1, .inl (cI, 30, .inl f1)), (r2, .inr (0, [.ref j2, .int (nI L2.length)])), (j2, .inl (cI, 30, .inl f2)), (r3, .inr (0, [.ref j3, .int (nI L3.length)])), (j3, .inl (cI, 30, .inl f3)), (r4, .inr (0, [.ref j4, .int (nI L4.length)])), (j4, .inl (cI, 30, .inl f4)), (r5, .inr (0, [.ref j5, .int (nI P.length)])), (j5, .inl (cI, 30, .inl f5)), (r6, .inr (0, [.ref j6, .int (nI M.length)])), (j6, .inl (cI, 30, .inl f6))]) [2, 3, 4, 5, 6, 7, 8, 9, 10, 11, 12, 13, 14, 15] rfl
  have hDc := hD.sub (ws' := [(gp, .inr (2, [.ref sh, .ref r5, .ref r6, .ref aa, .ref ta, .int nA, .int nH, .int nP, .int nM, .ref ts, .ref t5])), (sh, .inr (1, [.ref r1, .ref r2, .ref r3, .ref r4, .int (nI rc), .int (nI bo), .int lv])), (r1, .inr (0, [.ref j1, .int (nI L1.length)])), (j1, .inl (cI, 30, .inl f1)), (r2, .inr (0, [.ref j2, .int (nI L2.length)])), (j2, .inl (cI, 30, .inl f2)), (r3, .inr (0, [.ref j3, .int (nI L3.length)])), (j3, .inl (cI, 30, .inl f3)), (r4, .inr (0, [.ref j4, .int (nI L4.length)])), (j4, .inl (cI, 30, .inl f4)), (r5, .inr (0, [.ref j5, .int (nI P.length)])), (j5, .inl (cI, 30, .inl f5)), (r6, .inr (0, [.ref j6, .int (nI M.length)])), (j6, .inl (cI, 30, .inl f6))]) [2, 3, 4, 5, 6, 7, 8, 9, 10, 11, 12, 13, 14, 15] (by decide) rfl
  have hKc := hK.sub (tys' := [(cI, .int)]) [0] rfl
  have hFc := va_free (wc := [(gp, .inr (2, [.ref sh, .ref r5, .ref r6, .ref aa, .ref ta, .int nA, .int nH, .int nP, .int nM, .ref ts, .ref t5])), (sh, .inr (1, [.ref r1, .ref r2, .ref r3, .ref r4, .int (nI rc), .int (nI bo), .int lv])), (r1, .inr (0, [.ref j1, .int (nI L1.length)])), (j1, .inl (cI, 30, .inl f1)), (r2, .inr (0, [.ref j2, .int (nI L2.length)])), (j2, .inl (cI, 30, .inl f2)), (r3, .inr (0, [.ref j3, .int (nI L3.length)])), (j3, .inl (cI, 30, .inl f3)), (r4, .inr (0, [.ref j4, .int (nI L4.length)])), (j4, .inl (cI, 30, .inl f4)), (r5, .inr (0, [.ref j5, .int (nI P.length)])), (j5, .inl (cI, 30, .inl f5)), (r6, .inr (0, [.ref j6, .int (nI M.length)])), (j6, .inl (cI, 30, .inl f6))]) hD hS hA [2, 3, 4, 5, 6, 7, 8, 9, 10, 11, 12, 13, 14, 15] rfl
  refine va_calli (va_runV (As := [.int (nI 5)]) (rest := [.long ((dg (dg (dg (dg (dg 1427 ((nI rc))) ((nI L1.length))) ((nI L2.length))) ((nI L3.length))) ((nI L4.length))) * 31)]) ⟨hx, hb, hml, hown, hts⟩ (c_X2_count_5 l G cI gp sh r5 r6 aa ta ts t5 nA nH nP nM r1 r2 r3 r4 j1 j2 j3 j4 f1 f2 f3 f4 L1 L2 L3 L4 rc bo lv hR1 hR2 hR3 hR4 j5 f5 P hR5 j6 f6 M hR6 hn h3 hm1 H_18.size) (cwV 1 hts gX2_digest_X2_count rfl rfl rfl (by decide +kernel) ⟨Nat.le_of_ble_eq_true rfl, Nat.le_of_ble_eq_true rfl⟩) (g_preVN (As := [.int (nI 5)]) hPc hKc hDc 0 rfl rfl hN) rfl rfl hl.1 rfl (lv_room (Nat.le_of_ble_eq_true rfl)) dX2_digest_19 ⟨(Nat.le_of_ble_eq_true rfl), (Nat.le_of_ble_eq_true rfl)⟩) hS (fun q _ h => hFc q h) hFc (fun r_23 u_24 t H_22 locs ht hvm hw hB hz1 hk1 hS1 => ?_)
  have hw := hw.symm
  subst hw
  obtain ⟨hP1, hD1⟩ := g_join (wc := [(gp, .inr (2, [.ref sh, .ref r5, .ref r6, .ref aa, .ref ta, .int nA, .int nH, .int nP, .int nM, .ref ts, .ref t5])), (sh, .inr (1, [.ref r1, .ref r2, .ref r3, .ref r4, .int (nI rc), .int (nI bo), .int lv])), (r1, .inr (0, [.ref j1, .int (nI L1.length)])), (j1, .inl (cI, 30, .inl f1)), (r2, .inr (0, [.ref j2, .int (nI L2.length)])), (j2, .inl (cI, 30, .inl f2)), (r3, .inr (0, [.ref j3, .int (nI L3.length)])), (j3, .inl (cI, 30, .inl f3)), (r4, .inr (0, [.ref j4, .int (nI L4.length)])), (j4, .inl (cI, 30, .inl f4)), (r5, .inr (0, [.ref j5, .int (nI P.length)])), (j5, .inl (cI, 30, .inl f5)), (r6, .inr (0, [.ref j6, .int (nI M.length)])), (j6, .inl (cI, 30, .inl f6))]) (wr := [(aa, .inl (cI, 30, .inl KA)), (ta, .inl (cI, 30, .inl TA))]) (w1 := [(gp, .inr (2, [.ref sh, .ref r5, .ref r6, .ref aa, .ref ta, .int nA, .int nH, .int nP, .int nM, .ref ts, .ref t5])), (sh, .inr (1, [.ref r1, .ref r2, .ref r3, .ref r4, .int (nI rc), .int (nI bo), .int lv])), (r1, .inr (0, [.ref j1, .int (nI L1.length)])), (j1, .inl (cI, 30, .inl f1)), (r2, .inr (0, [.ref j2, .int (nI L2.length)])), (j2, .inl (cI, 30, .inl f2)), (r3, .inr (0, [.ref j3, .int (nI L3.length)])), (j3, .inl (cI, 30, .inl f3)), (r4, .inr (0, [.ref j4, .int (nI L4.length)])), (j4, .inl (cI, 30, .inl f4)), (r5, .inr (0, [.ref j5, .int (nI P.length)])), (j5, .inl (cI, 30, .inl f5)), (r6, .inr (0, [.ref j6, .int (nI M.length)])), (j6, .inl (cI, 30, .inl f6))]) hP hD [2, 3, 4, 5, 6, 7, 8, 9, 10, 11, 12, 13, 14, 15] [0, 1] rfl rfl (by decide) (by decide) ht hk1 hFc hB
  clear hB hk1 hz1 hvm ht hPc hDc hKc hFc
  clear hP hD hS
  have hP : va_P G vwCl [(aa, .inl (cI, 30, .inl KA)), (ta, .inl (cI, 30, .inl TA)), (gp, .inr (2, [.ref sh, .ref r5, .ref r6, .ref aa, .ref ta, .int nA, .int nH, .int nP, .int nM, .ref ts, .ref t5])), (sh, .inr (1, [.ref r1, .ref r2, .ref r3, .ref r4, .int (nI rc), .int (nI bo), .int lv])), (r1, .inr (0, [.ref j1, .int (nI L1.length)])), (j1, .inl (cI, 30, .inl f1)), (r2, .inr (0, [.ref j2, .int (nI L2.length)])), (j2, .inl (cI, 30, .inl f2)), (r3, .inr (0, [.ref j3, .int (nI L3.length)])), (j3, .inl (cI, 30, .inl f3)), (r4, .inr (0, [.ref j4, .int (nI L4.length)])), (j4, .inl (cI, 30, .inl f4)), (r5, .inr (0, [.ref j5, .int (nI P.length)])), (j5, .inl (cI, 30, .inl f5)), (r6, .inr (0, [.ref j6, .int (nI M.length)])), (j6, .inl (cI, 30, .inl f6))] H_22 := hP1
  have hD : va_D A [(aa, .inl (cI, 30, .inl KA)), (ta, .inl (cI, 30, .inl TA)), (gp, .inr (2, [.ref sh, .ref r5, .ref r6, .ref aa, .ref ta, .int nA, .int nH, .int nP, .int nM, .ref ts, .ref t5])), (sh, .inr (1, [.ref r1, .ref r2, .ref r3, .ref r4, .int (nI rc), .int (nI bo), .int lv])), (r1, .inr (0, [.ref j1, .int (nI L1.length)])), (j1, .inl (cI, 30, .inl f1)), (r2, .inr (0, [.ref j2, .int (nI L2.length)])), (j2, .inl (cI, 30, .inl f2)), (r3, .inr (0, [.ref j3, .int (nI L3.length)])), (j3, .inl (cI, 30, .inl f3)), (r4, .inr (0, [.ref j4, .int (nI L4.length)])), (j4, .inl (cI, 30, .inl f4)), (r5, .inr (0, [.ref j5, .int (nI P.length)])), (j5, .inl (cI, 30, .inl f5)), (r6, .inr (0, [.ref j6, .int (nI M.length)])), (j6, .inl (cI, 30, .inl f6))] := hD1
  have hS := hS1
  clear hP1 hD1 hS1
  refine lv_i2l hx hb dX2_digest_22 rfl ?_
  refine lv_ladd hx hb dX2_digest_23 ?_
  refine lv_lstore_n (lv' := [(1, .long (dg (dg (dg (dg (dg (dg 1427 ((nI rc))) ((nI L1.length))) ((nI L2.length))) ((nI L3.length))) ((nI L4.length))) ((nI P.length)))), (3, .int (nI 5)), (0, .ref gp)]) hx hb dX2_digest_24 rfl hl (by decide) rfl (fun ls hl1 => ?_)
  clear hl
  have hl := hl1
  clear hl1
  refine lv_iinc (v := (nI 6)) (lv' := [(3, .int (nI 6)), (1, .long (dg (dg (dg (dg (dg (dg 1427 ((nI rc))) ((nI L1.length))) ((nI L2.length))) ((nI L3.length))) ((nI L4.length))) ((nI P.length)))), (0, .ref gp)]) hx hb dX2_digest_25 hl (k := 1) rfl (by decide +kernel) (by decide) rfl (fun ls hl => ?_)
  refine lv_goto (tgt := 6) hx hb dX2_digest_28 (by decide) ?_
  refine lv_iload_n hx hb dX2_digest_6 rfl (lv_at hl 0 rfl) ?_
  refine lv_bipush (v := (nI 12)) hx hb dX2_digest_7 (by decide +kernel) ?_
  refine g_icmp_ge (tgt := 31) hx hb dX2_digest_9 (by decide) (by decide) (by decide) (fun c_25 => False.elim (by omega)) (fun c_25 => ?_)
  refine lv_lload_n hx hb dX2_digest_12 rfl (lv_at hl 1 rfl) ?_
  refine lv_ldc2 (v := 31) hx hb hown (hts (.constantLong RX2 165 (31)) (by decide +kernel)) dX2_digest_13 ?_
  refine lv_lmul hx hb dX2_digest_16 ?_
  refine lv_aload_n hx hb dX2_digest_17 rfl (lv_at hl 2 rfl) ?_
  refine lv_iload_n hx hb dX2_digest_18 rfl (lv_at hl 0 rfl) ?_
  have hPc := hP.sub (ws' := [(gp, .inr (2, [.ref sh, .ref r5, .ref r6, .ref aa, .ref ta, .int nA, .int nH, .int nP, .int nM, .ref ts, .ref t5])), (sh, .inr (1, [.ref r1, .ref r2, .ref r3, .ref r4, .int (nI rc), .int (nI bo), .int lv])), (r1, .inr (0, [.ref j1, .int (nI L1.length)])), (j1, .inl (cI, 30, .inl f1)), (r2, .inr (0, [.ref j2, .int (nI L2.length)])), (j2, .inl (cI, 30, .inl f2)), (r3, .inr (0, [.ref j3, .int (nI L3.length)])), (j3, .inl (cI, 30, .inl f3)), (r4, .inr (0, [.ref j4, .int (nI L4.length)])), (j4, .inl (cI, 30, .inl f4)), (r5, .inr (0, [.ref j5, .int (nI P.length)])), (j5, .inl (cI, 30, .inl f5)), (r6, .inr (0, [.ref j6, .int (nI M.length)])), (j6, .inl (cI, 30, .inl f6))]) [2, 3, 4, 5, 6, 7, 8, 9, 10, 11, 12, 13, 14, 15] rfl
  have hDc := hD.sub (ws' := [(gp, .inr (2, [.ref sh, .ref r5, .ref r6, .ref aa, .ref ta, .int nA, .int nH, .int nP, .int nM, .ref ts, .ref t5])), (sh, .inr (1, [.ref r1, .ref r2, .ref r3, .ref r4, .int (nI rc), .int (nI bo), .int lv])), (r1, .inr (0, [.ref j1, .int (nI L1.length)])), (j1, .inl (cI, 30, .inl f1)), (r2, .inr (0, [.ref j2, .int (nI L2.length)])), (j2, .inl (cI, 30, .inl f2)), (r3, .inr (0, [.ref j3, .int (nI L3.length)])), (j3, .inl (cI, 30, .inl f3)), (r4, .inr (0, [.ref j4, .int (nI L4.length)])), (j4, .inl (cI, 30, .inl f4)), (r5, .inr (0, [.ref j5, .int (nI P.length)])), (j5, .inl (cI, 30, .inl f5)), (r6, .inr (0, [.ref j6, .int (nI M.length)])), (j6, .inl (cI, 30, .inl f6))]) [2, 3, 4, 5, 6, 7, 8, 9, 10, 11, 12, 13, 14, 15] (by decide) rfl
  have hKc := hK.sub (tys' := [(cI, .int)]) [0] rfl
  have hFc := va_free (wc := [(gp, .inr (2, [.ref sh, .ref r5, .ref r6, .ref aa, .ref ta, .int nA, .int nH, .int nP, .int nM, .ref ts, .ref t5])), (sh, .inr (1, [.ref r1, .ref r2, .ref r3, .ref r4, .int (nI rc), .int (nI bo), .int lv])), (r1, .inr (0, [.ref j1, .int (nI L1.length)])), (j1, .inl (cI, 30, .inl f1)), (r2, .inr (0, [.ref j2, .int (nI L2.length)])), (j2, .inl (cI, 30, .inl f2)), (r3, .inr (0, [.ref j3, .int (nI L3.length)])), (j3, .inl (cI, 30, .inl f3)), (r4, .inr (0, [.ref j4, .int (nI L4.length)])), (j4, .inl (cI, 30, .inl f4)), (r5, .inr (0, [.ref j5, .int (nI P.length)])), (j5, .inl (cI, 30, .inl f5)), (r6, .inr (0, [.ref j6, .int (nI M.length)])), (j6, .inl (cI, 30, .inl f6))]) hD hS hA [2, 3, 4, 5, 6, 7, 8, 9, 10, 11, 12, 13, 14, 15] rfl
  refine va_calli (va_runV (As := [.int (nI 6)]) (rest := [.long ((dg (dg (dg (dg (dg (dg 1427 ((nI rc))) ((nI L1.length))) ((nI L2.length))) ((nI L3.length))) ((nI L4.length))) ((nI P.length))) * 31)]) ⟨hx, hb, hml, hown, hts⟩ (c_X2_count_6 l G cI gp sh r5 r6 aa ta ts t5 nA nH nP nM r1 r2 r3 r4 j1 j2 j3 j4 f1 f2 f3 f4 L1 L2 L3 L4 rc bo lv hR1 hR2 hR3 hR4 j5 f5 P hR5 j6 f6 M hR6 hn h3 hm1 H_22.size) (cwV 1 hts gX2_digest_X2_count rfl rfl rfl (by decide +kernel) ⟨Nat.le_of_ble_eq_true rfl, Nat.le_of_ble_eq_true rfl⟩) (g_preVN (As := [.int (nI 6)]) hPc hKc hDc 0 rfl rfl hN) rfl rfl hl.1 rfl (lv_room (Nat.le_of_ble_eq_true rfl)) dX2_digest_19 ⟨(Nat.le_of_ble_eq_true rfl), (Nat.le_of_ble_eq_true rfl)⟩) hS (fun q _ h => hFc q h) hFc (fun r_27 u_28 t H_26 locs ht hvm hw hB hz1 hk1 hS1 => ?_)
  have hw := hw.symm
  subst hw
  obtain ⟨hP1, hD1⟩ := g_join (wc := [(gp, .inr (2, [.ref sh, .ref r5, .ref r6, .ref aa, .ref ta, .int nA, .int nH, .int nP, .int nM, .ref ts, .ref t5])), (sh, .inr (1, [.ref r1, .ref r2, .ref r3, .ref r4, .int (nI rc), .int (nI bo), .int lv])), (r1, .inr (0, [.ref j1, .int (nI L1.length)])), (j1, .inl (cI, 30, .inl f1)), (r2, .inr (0, [.ref j2, .int (nI L2.length)])), (j2, .inl (cI, 30, .inl f2)), (r3, .inr (0, [.ref j3, .int (nI L3.length)])), (j3, .inl (cI, 30, .inl f3)), (r4, .inr (0, [.ref j4, .int (nI L4.length)])), (j4, .inl (cI, 30, .inl f4)), (r5, .inr (0, [.ref j5, .int (nI P.length)])), (j5, .inl (cI, 30, .inl f5)), (r6, .inr (0, [.ref j6, .int (nI M.length)])), (j6, .inl (cI, 30, .inl f6))]) (wr := [(aa, .inl (cI, 30, .inl KA)), (ta, .inl (cI, 30, .inl TA))]) (w1 := [(gp, .inr (2, [.ref sh, .ref r5, .ref r6, .ref aa, .ref ta, .int nA, .int nH, .int nP, .int nM, .ref ts, .ref t5])), (sh, .inr (1, [.ref r1, .ref r2, .ref r3, .ref r4, .int (nI rc), .int (nI bo), .int lv])), (r1, .inr (0, [.ref j1, .int (nI L1.length)])), (j1, .inl (cI, 30, .inl f1)), (r2, .inr (0, [.ref j2, .int (nI L2.length)])), (j2, .inl (cI, 30, .inl f2)), (r3, .inr (0, [.ref j3, .int (nI L3.length)])), (j3, .inl (cI, 30, .inl f3)), (r4, .inr (0, [.ref j4, .int (nI L4.length)])), (j4, .inl (cI, 30, .inl f4)), (r5, .inr (0, [.ref j5, .int (nI P.length)])), (j5, .inl (cI, 30, .inl f5)), (r6, .inr (0, [.ref j6, .int (nI M.length)])), (j6, .inl (cI, 30, .inl f6))]) hP hD [2, 3, 4, 5, 6, 7, 8, 9, 10, 11, 12, 13, 14, 15] [0, 1] rfl rfl (by decide) (by decide) ht hk1 hFc hB
  clear hB hk1 hz1 hvm ht hPc hDc hKc hFc
  clear hP hD hS
  have hP : va_P G vwCl [(aa, .inl (cI, 30, .inl KA)), (ta, .inl (cI, 30, .inl TA)), (gp, .inr (2, [.ref sh, .ref r5, .ref r6, .ref aa, .ref ta, .int nA, .int nH, .int nP, .int nM, .ref ts, .ref t5])), (sh, .inr (1, [.ref r1, .ref r2, .ref r3, .ref r4, .int (nI rc), .int (nI bo), .int lv])), (r1, .inr (0, [.ref j1, .int (nI L1.length)])), (j1, .inl (cI, 30, .inl f1)), (r2, .inr (0, [.ref j2, .int (nI L2.length)])), (j2, .inl (cI, 30, .inl f2)), (r3, .inr (0, [.ref j3, .int (nI L3.length)])), (j3, .inl (cI, 30, .inl f3)), (r4, .inr (0, [.ref j4, .int (nI L4.length)])), (j4, .inl (cI, 30, .inl f4)), (r5, .inr (0, [.ref j5, .int (nI P.length)])), (j5, .inl (cI, 30, .inl f5)), (r6, .inr (0, [.ref j6, .int (nI M.length)])), (j6, .inl (cI, 30, .inl f6))] H_26 := hP1
  have hD : va_D A [(aa, .inl (cI, 30, .inl KA)), (ta, .inl (cI, 30, .inl TA)), (gp, .inr (2, [.ref sh, .ref r5, .ref r6, .ref aa, .ref ta, .int nA, .int nH, .int nP, .int nM, .ref ts, .ref t5])), (sh, .inr (1, [.ref r1, .ref r2, .ref r3, .ref r4, .int (nI rc), .int (nI bo), .int lv])), (r1, .inr (0, [.ref j1, .int (nI L1.length)])), (j1, .inl (cI, 30, .inl f1)), (r2, .inr (0, [.ref j2, .int (nI L2.length)])), (j2, .inl (cI, 30, .inl f2)), (r3, .inr (0, [.ref j3, .int (nI L3.length)])), (j3, .inl (cI, 30, .inl f3)), (r4, .inr (0, [.ref j4, .int (nI L4.length)])), (j4, .inl (cI, 30, .inl f4)), (r5, .inr (0, [.ref j5, .int (nI P.length)])), (j5, .inl (cI, 30, .inl f5)), (r6, .inr (0, [.ref j6, .int (nI M.length)])), (j6, .inl (cI, 30, .inl f6))] := hD1
  have hS := hS1
  clear hP1 hD1 hS1
  refine lv_i2l hx hb dX2_digest_22 rfl ?_
  refine lv_ladd hx hb dX2_digest_23 ?_
  refine lv_lstore_n (lv' := [(1, .long (dg (dg (dg (dg (dg (dg (dg 1427 ((nI rc))) ((nI L1.length))) ((nI L2.length))) ((nI L3.length))) ((nI L4.length))) ((nI P.length))) ((nI M.length)))), (3, .int (nI 6)), (0, .ref gp)]) hx hb dX2_digest_24 rfl hl (by decide) rfl (fun ls hl1 => ?_)
  clear hl
  have hl := hl1
  clear hl1
  refine lv_iinc (v := (nI 7)) (lv' := [(3, .int (nI 7)), (1, .long (dg (dg (dg (dg (dg (dg (dg 1427 ((nI rc))) ((nI L1.length))) ((nI L2.length))) ((nI L3.length))) ((nI L4.length))) ((nI P.length))) ((nI M.length)))), (0, .ref gp)]) hx hb dX2_digest_25 hl (k := 1) rfl (by decide +kernel) (by decide) rfl (fun ls hl => ?_)
  refine lv_goto (tgt := 6) hx hb dX2_digest_28 (by decide) ?_
  refine lv_iload_n hx hb dX2_digest_6 rfl (lv_at hl 0 rfl) ?_
  refine lv_bipush (v := (nI 12)) hx hb dX2_digest_7 (by decide +kernel) ?_
  refine g_icmp_ge (tgt := 31) hx hb dX2_digest_9 (by decide) (by decide) (by decide) (fun c_29 => False.elim (by omega)) (fun c_29 => ?_)
  refine lv_lload_n hx hb dX2_digest_12 rfl (lv_at hl 1 rfl) ?_
  refine lv_ldc2 (v := 31) hx hb hown (hts (.constantLong RX2 165 (31)) (by decide +kernel)) dX2_digest_13 ?_
  refine lv_lmul hx hb dX2_digest_16 ?_
  refine lv_aload_n hx hb dX2_digest_17 rfl (lv_at hl 2 rfl) ?_
  refine lv_iload_n hx hb dX2_digest_18 rfl (lv_at hl 0 rfl) ?_
  have hPc := hP.sub (ws' := [(gp, .inr (2, [.ref sh, .ref r5, .ref r6, .ref aa, .ref ta, .int nA, .int nH, .int nP, .int nM, .ref ts, .ref t5])), (sh, .inr (1, [.ref r1, .ref r2, .ref r3, .ref r4, .int (nI rc), .int (nI bo), .int lv])), (r1, .inr (0, [.ref j1, .int (nI L1.length)])), (j1, .inl (cI, 30, .inl f1)), (r2, .inr (0, [.ref j2, .int (nI L2.length)])), (j2, .inl (cI, 30, .inl f2)), (r3, .inr (0, [.ref j3, .int (nI L3.length)])), (j3, .inl (cI, 30, .inl f3)), (r4, .inr (0, [.ref j4, .int (nI L4.length)])), (j4, .inl (cI, 30, .inl f4)), (r5, .inr (0, [.ref j5, .int (nI P.length)])), (j5, .inl (cI, 30, .inl f5)), (r6, .inr (0, [.ref j6, .int (nI M.length)])), (j6, .inl (cI, 30, .inl f6))]) [2, 3, 4, 5, 6, 7, 8, 9, 10, 11, 12, 13, 14, 15] rfl
  have hDc := hD.sub (ws' := [(gp, .inr (2, [.ref sh, .ref r5, .ref r6, .ref aa, .ref ta, .int nA, .int nH, .int nP, .int nM, .ref ts, .ref t5])), (sh, .inr (1, [.ref r1, .ref r2, .ref r3, .ref r4, .int (nI rc), .int (nI bo), .int lv])), (r1, .inr (0, [.ref j1, .int (nI L1.length)])), (j1, .inl (cI, 30, .inl f1)), (r2, .inr (0, [.ref j2, .int (nI L2.length)])), (j2, .inl (cI, 30, .inl f2)), (r3, .inr (0, [.ref j3, .int (nI L3.length)])), (j3, .inl (cI, 30, .inl f3)), (r4, .inr (0, [.ref j4, .int (nI L4.length)])), (j4, .inl (cI, 30, .inl f4)), (r5, .inr (0, [.ref j5, .int (nI P.length)])), (j5, .inl (cI, 30, .inl f5)), (r6, .inr (0, [.ref j6, .int (nI M.length)])), (j6, .inl (cI, 30, .inl f6))]) [2, 3, 4, 5, 6, 7, 8, 9, 10, 11, 12, 13, 14, 15] (by decide) rfl
  have hKc := hK.sub (tys' := [(cI, .int)]) [0] rfl
  have hFc := va_free (wc := [(gp, .inr (2, [.ref sh, .ref r5, .ref r6, .ref aa, .ref ta, .int nA, .int nH, .int nP, .int nM, .ref ts, .ref t5])), (sh, .inr (1, [.ref r1, .ref r2, .ref r3, .ref r4, .int (nI rc), .int (nI bo), .int lv])), (r1, .inr (0, [.ref j1, .int (nI L1.length)])), (j1, .inl (cI, 30, .inl f1)), (r2, .inr (0, [.ref j2, .int (nI L2.length)])), (j2, .inl (cI, 30, .inl f2)), (r3, .inr (0, [.ref j3, .int (nI L3.length)])), (j3, .inl (cI, 30, .inl f3)), (r4, .inr (0, [.ref j4, .int (nI L4.length)])), (j4, .inl (cI, 30, .inl f4)), (r5, .inr (0, [.ref j5, .int (nI P.length)])), (j5, .inl (cI, 30, .inl f5)), (r6, .inr (0, [.ref j6, .int (nI M.length)])), (j6, .inl (cI, 30, .inl f6))]) hD hS hA [2, 3, 4, 5, 6, 7, 8, 9, 10, 11, 12, 13, 14, 15] rfl
  refine va_calli (va_runV (As := [.int (nI 7)]) (rest := [.long ((dg (dg (dg (dg (dg (dg (dg 1427 ((nI rc))) ((nI L1.length))) ((nI L2.length))) ((nI L3.length))) ((nI L4.length))) ((nI P.length))) ((nI M.length))) * 31)]) ⟨hx, hb, hml, hown, hts⟩ (c_X2_count_7 l G cI gp sh r5 r6 aa ta ts t5 nA nH nP nM r1 r2 r3 r4 j1 j2 j3 j4 f1 f2 f3 f4 L1 L2 L3 L4 rc bo lv hR1 hR2 hR3 hR4 j5 f5 P hR5 j6 f6 M hR6 hn h3 hm1 H_26.size) (cwV 1 hts gX2_digest_X2_count rfl rfl rfl (by decide +kernel) ⟨Nat.le_of_ble_eq_true rfl, Nat.le_of_ble_eq_true rfl⟩) (g_preVN (As := [.int (nI 7)]) hPc hKc hDc 0 rfl rfl hN) rfl rfl hl.1 rfl (lv_room (Nat.le_of_ble_eq_true rfl)) dX2_digest_19 ⟨(Nat.le_of_ble_eq_true rfl), (Nat.le_of_ble_eq_true rfl)⟩) hS (fun q _ h => hFc q h) hFc (fun r_31 u_32 t H_30 locs ht hvm hw hB hz1 hk1 hS1 => ?_)
  have hw := hw.symm
  subst hw
  obtain ⟨hP1, hD1⟩ := g_join (wc := [(gp, .inr (2, [.ref sh, .ref r5, .ref r6, .ref aa, .ref ta, .int nA, .int nH, .int nP, .int nM, .ref ts, .ref t5])), (sh, .inr (1, [.ref r1, .ref r2, .ref r3, .ref r4, .int (nI rc), .int (nI bo), .int lv])), (r1, .inr (0, [.ref j1, .int (nI L1.length)])), (j1, .inl (cI, 30, .inl f1)), (r2, .inr (0, [.ref j2, .int (nI L2.length)])), (j2, .inl (cI, 30, .inl f2)), (r3, .inr (0, [.ref j3, .int (nI L3.length)])), (j3, .inl (cI, 30, .inl f3)), (r4, .inr (0, [.ref j4, .int (nI L4.length)])), (j4, .inl (cI, 30, .inl f4)), (r5, .inr (0, [.ref j5, .int (nI P.length)])), (j5, .inl (cI, 30, .inl f5)), (r6, .inr (0, [.ref j6, .int (nI M.length)])), (j6, .inl (cI, 30, .inl f6))]) (wr := [(aa, .inl (cI, 30, .inl KA)), (ta, .inl (cI, 30, .inl TA))]) (w1 := [(gp, .inr (2, [.ref sh, .ref r5, .ref r6, .ref aa, .ref ta, .int nA, .int nH, .int nP, .int nM, .ref ts, .ref t5])), (sh, .inr (1, [.ref r1, .ref r2, .ref r3, .ref r4, .int (nI rc), .int (nI bo), .int lv])), (r1, .inr (0, [.ref j1, .int (nI L1.length)])), (j1, .inl (cI, 30, .inl f1)), (r2, .inr (0, [.ref j2, .int (nI L2.length)])), (j2, .inl (cI, 30, .inl f2)), (r3, .inr (0, [.ref j3, .int (nI L3.length)])), (j3, .inl (cI, 30, .inl f3)), (r4, .inr (0, [.ref j4, .int (nI L4.length)])), (j4, .inl (cI, 30, .inl f4)), (r5, .inr (0, [.ref j5, .int (nI P.length)])), (j5, .inl (cI, 30, .inl f5)), (r6, .inr (0, [.ref j6, .int (nI M.length)])), (j6, .inl (cI, 30, .inl f6))]) hP hD [2, 3, 4, 5, 6, 7, 8, 9, 10, 11, 12, 13, 14, 15] [0, 1] rfl rfl (by decide) (by decide) ht hk1 hFc hB
  clear hB hk1 hz1 hvm ht hPc hDc hKc hFc
  clear hP hD hS
  have hP : va_P G vwCl [(aa, .inl (cI, 30, .inl KA)), (ta, .inl (cI, 30, .inl TA)), (gp, .inr (2, [.ref sh, .ref r5, .ref r6, .ref aa, .ref ta, .int nA, .int nH, .int nP, .int nM, .ref ts, .ref t5])), (sh, .inr (1, [.ref r1, .ref r2, .ref r3, .ref r4, .int (nI rc), .int (nI bo), .int lv])), (r1, .inr (0, [.ref j1, .int (nI L1.length)])), (j1, .inl (cI, 30, .inl f1)), (r2, .inr (0, [.ref j2, .int (nI L2.length)])), (j2, .inl (cI, 30, .inl f2)), (r3, .inr (0, [.ref j3, .int (nI L3.length)])), (j3, .inl (cI, 30, .inl f3)), (r4, .inr (0, [.ref j4, .int (nI L4.length)])), (j4, .inl (cI, 30, .inl f4)), (r5, .inr (0, [.ref j5, .int (nI P.length)])), (j5, .inl (cI, 30, .inl f5)), (r6, .inr (0, [.ref j6, .int (nI M.length)])), (j6, .inl (cI, 30, .inl f6))] H_30 := hP1
  have hD : va_D A [(aa, .inl (cI, 30, .inl KA)), (ta, .inl (cI, 30, .inl TA)), (gp, .inr (2, [.ref sh, .ref r5, .ref r6, .ref aa, .ref ta, .int nA, .int nH, .int nP, .int nM, .ref ts, .ref t5])), (sh, .inr (1, [.ref r1, .ref r2, .ref r3, .ref r4, .int (nI rc), .int (nI bo), .int lv])), (r1, .inr (0, [.ref j1, .int (nI L1.length)])), (j1, .inl (cI, 30, .inl f1)), (r2, .inr (0, [.ref j2, .int (nI L2.length)])), (j2, .inl (cI, 30, .inl f2)), (r3, .inr (0, [.ref j3, .int (nI L3.length)])), (j3, .inl (cI, 30, .inl f3)), (r4, .inr (0, [.ref j4, .int (nI L4.length)])), (j4, .inl (cI, 30, .inl f4)), (r5, .inr (0, [.ref j5, .int (nI P.length)])), (j5, .inl (cI, 30, .inl f5)), (r6, .inr (0, [.ref j6, .int (nI M.length)])), (j6, .inl (cI, 30, .inl f6))] := hD1
  have hS := hS1
  clear hP1 hD1 hS1
  refine lv_i2l hx hb dX2_digest_22 rfl ?_
  refine lv_ladd hx hb dX2_digest_23 ?_
  refine lv_lstore_n (lv' := [(1, .long (dg (dg (dg (dg (dg (dg (dg (dg 1427 ((nI rc))) ((nI L1.length))) ((nI L2.length))) ((nI L3.length))) ((nI L4.length))) ((nI P.length))) ((nI M.length))) ((nI bo)))), (3, .int (nI 7)), (0, .ref gp)]) hx hb dX2_digest_24 rfl hl (by decide) rfl (fun ls hl1 => ?_)
  clear hl
  have hl := hl1
  clear hl1
  refine lv_iinc (v := (nI 8)) (lv' := [(3, .int (nI 8)), (1, .long (dg (dg (dg (dg (dg (dg (dg (dg 1427 ((nI rc))) ((nI L1.length))) ((nI L2.length))) ((nI L3.length))) ((nI L4.length))) ((nI P.length))) ((nI M.length))) ((nI bo)))), (0, .ref gp)]) hx hb dX2_digest_25 hl (k := 1) rfl (by decide +kernel) (by decide) rfl (fun ls hl => ?_)
  refine lv_goto (tgt := 6) hx hb dX2_digest_28 (by decide) ?_
  refine lv_iload_n hx hb dX2_digest_6 rfl (lv_at hl 0 rfl) ?_
  refine lv_bipush (v := (nI 12)) hx hb dX2_digest_7 (by decide +kernel) ?_
  refine g_icmp_ge (tgt := 31) hx hb dX2_digest_9 (by decide) (by decide) (by decide) (fun c_33 => False.elim (by omega)) (fun c_33 => ?_)
  refine lv_lload_n hx hb dX2_digest_12 rfl (lv_at hl 1 rfl) ?_
  refine lv_ldc2 (v := 31) hx hb hown (hts (.constantLong RX2 165 (31)) (by decide +kernel)) dX2_digest_13 ?_
  refine lv_lmul hx hb dX2_digest_16 ?_
  refine lv_aload_n hx hb dX2_digest_17 rfl (lv_at hl 2 rfl) ?_
  refine lv_iload_n hx hb dX2_digest_18 rfl (lv_at hl 0 rfl) ?_
  have hPc := hP.sub (ws' := [(gp, .inr (2, [.ref sh, .ref r5, .ref r6, .ref aa, .ref ta, .int nA, .int nH, .int nP, .int nM, .ref ts, .ref t5])), (sh, .inr (1, [.ref r1, .ref r2, .ref r3, .ref r4, .int (nI rc), .int (nI bo), .int lv])), (r1, .inr (0, [.ref j1, .int (nI L1.length)])), (j1, .inl (cI, 30, .inl f1)), (r2, .inr (0, [.ref j2, .int (nI L2.length)])), (j2, .inl (cI, 30, .inl f2)), (r3, .inr (0, [.ref j3, .int (nI L3.length)])), (j3, .inl (cI, 30, .inl f3)), (r4, .inr (0, [.ref j4, .int (nI L4.length)])), (j4, .inl (cI, 30, .inl f4)), (r5, .inr (0, [.ref j5, .int (nI P.length)])), (j5, .inl (cI, 30, .inl f5)), (r6, .inr (0, [.ref j6, .int (nI M.length)])), (j6, .inl (cI, 30, .inl f6))]) [2, 3, 4, 5, 6, 7, 8, 9, 10, 11, 12, 13, 14, 15] rfl
  have hDc := hD.sub (ws' := [(gp, .inr (2, [.ref sh, .ref r5, .ref r6, .ref aa, .ref ta, .int nA, .int nH, .int nP, .int nM, .ref ts, .ref t5])), (sh, .inr (1, [.ref r1, .ref r2, .ref r3, .ref r4, .int (nI rc), .int (nI bo), .int lv])), (r1, .inr (0, [.ref j1, .int (nI L1.length)])), (j1, .inl (cI, 30, .inl f1)), (r2, .inr (0, [.ref j2, .int (nI L2.length)])), (j2, .inl (cI, 30, .inl f2)), (r3, .inr (0, [.ref j3, .int (nI L3.length)])), (j3, .inl (cI, 30, .inl f3)), (r4, .inr (0, [.ref j4, .int (nI L4.length)])), (j4, .inl (cI, 30, .inl f4)), (r5, .inr (0, [.ref j5, .int (nI P.length)])), (j5, .inl (cI, 30, .inl f5)), (r6, .inr (0, [.ref j6, .int (nI M.length)])), (j6, .inl (cI, 30, .inl f6))]) [2, 3, 4, 5, 6, 7, 8, 9, 10, 11, 12, 13, 14, 15] (by decide) rfl
  have hKc := hK.sub (tys' := [(cI, .int)]) [0] rfl
  have hFc := va_free (wc := [(gp, .inr (2, [.ref sh, .ref r5, .ref r6, .ref aa, .ref ta, .int nA, .int nH, .int nP, .int nM, .ref ts, .ref t5])), (sh, .inr (1, [.ref r1, .ref r2, .ref r3, .ref r4, .int (nI rc), .int (nI bo), .int lv])), (r1, .inr (0, [.ref j1, .int (nI L1.length)])), (j1, .inl (cI, 30, .inl f1)), (r2, .inr (0, [.ref j2, .int (nI L2.length)])), (j2, .inl (cI, 30, .inl f2)), (r3, .inr (0, [.ref j3, .int (nI L3.length)])), (j3, .inl (cI, 30, .inl f3)), (r4, .inr (0, [.ref j4, .int (nI L4.length)])), (j4, .inl (cI, 30, .inl f4)), (r5, .inr (0, [.ref j5, .int (nI P.length)])), (j5, .inl (cI, 30, .inl f5)), (r6, .inr (0, [.ref j6, .int (nI M.length)])), (j6, .inl (cI, 30, .inl f6))]) hD hS hA [2, 3, 4, 5, 6, 7, 8, 9, 10, 11, 12, 13, 14, 15] rfl
  refine va_calli (va_runV (As := [.int (nI 8)]) (rest := [.long ((dg (dg (dg (dg (dg (dg (dg (dg 1427 ((nI rc))) ((nI L1.length))) ((nI L2.length))) ((nI L3.length))) ((nI L4.length))) ((nI P.length))) ((nI M.length))) ((nI bo))) * 31)]) ⟨hx, hb, hml, hown, hts⟩ (c_X2_count_8 l G cI gp sh r5 r6 aa ta ts t5 nA nH nP nM r1 r2 r3 r4 j1 j2 j3 j4 f1 f2 f3 f4 L1 L2 L3 L4 rc bo lv hR1 hR2 hR3 hR4 j5 f5 P hR5 j6 f6 M hR6 hn h3 hm1 H_30.size) (cwV 1 hts gX2_digest_X2_count rfl rfl rfl (by decide +kernel) ⟨Nat.le_of_ble_eq_true rfl, Nat.le_of_ble_eq_true rfl⟩) (g_preVN (As := [.int (nI 8)]) hPc hKc hDc 0 rfl rfl hN) rfl rfl hl.1 rfl (lv_room (Nat.le_of_ble_eq_true rfl)) dX2_digest_19 ⟨(Nat.le_of_ble_eq_true rfl), (Nat.le_of_ble_eq_true rfl)⟩) hS (fun q _ h => hFc q h) hFc (fun r_35 u_36 t H_34 locs ht hvm hw hB hz1 hk1 hS1 => ?_)
  have hw := hw.symm
  subst hw
  obtain ⟨hP1, hD1⟩ := g_join (wc := [(gp, .inr (2, [.ref sh, .ref r5, .ref r6, .ref aa, .ref ta, .int nA, .int nH, .int nP, .int nM, .ref ts, .ref t5])), (sh, .inr (1, [.ref r1, .ref r2, .ref r3, .ref r4, .int (nI rc), .int (nI bo), .int lv])), (r1, .inr (0, [.ref j1, .int (nI L1.length)])), (j1, .inl (cI, 30, .inl f1)), (r2, .inr (0, [.ref j2, .int (nI L2.length)])), (j2, .inl (cI, 30, .inl f2)), (r3, .inr (0, [.ref j3, .int (nI L3.length)])), (j3, .inl (cI, 30, .inl f3)), (r4, .inr (0, [.ref j4, .int (nI L4.length)])), (j4, .inl (cI, 30, .inl f4)), (r5, .inr (0, [.ref j5, .int (nI P.length)])), (j5, .inl (cI, 30, .inl f5)), (r6, .inr (0, [.ref j6, .int (nI M.length)])), (j6, .inl (cI, 30, .inl f6))]) (wr := [(aa, .inl (cI, 30, .inl KA)), (ta, .inl (cI, 30, .inl TA))]) (w1 := [(gp, .inr (2, [.ref sh, .ref r5, .ref r6, .ref aa, .ref ta, .int nA, .int nH, .int nP, .int nM, .ref ts, .ref t5])), (sh, .inr (1, [.ref r1, .ref r2, .ref r3, .ref r4, .int (nI rc), .int (nI bo), .int lv])), (r1, .inr (0, [.ref j1, .int (nI L1.length)])), (j1, .inl (cI, 30, .inl f1)), (r2, .inr (0, [.ref j2, .int (nI L2.length)])), (j2, .inl (cI, 30, .inl f2)), (r3, .inr (0, [.ref j3, .int (nI L3.length)])), (j3, .inl (cI, 30, .inl f3)), (r4, .inr (0, [.ref j4, .int (nI L4.length)])), (j4, .inl (cI, 30, .inl f4)), (r5, .inr (0, [.ref j5, .int (nI P.length)])), (j5, .inl (cI, 30, .inl f5)), (r6, .inr (0, [.ref j6, .int (nI M.length)])), (j6, .inl (cI, 30, .inl f6))]) hP hD [2, 3, 4, 5, 6, 7, 8, 9, 10, 11, 12, 13, 14, 15] [0, 1] rfl rfl (by decide) (by decide) ht hk1 hFc hB
  clear hB hk1 hz1 hvm ht hPc hDc hKc hFc
  clear hP hD hS
  have hP : va_P G vwCl [(aa, .inl (cI, 30, .inl KA)), (ta, .inl (cI, 30, .inl TA)), (gp, .inr (2, [.ref sh, .ref r5, .ref r6, .ref aa, .ref ta, .int nA, .int nH, .int nP, .int nM, .ref ts, .ref t5])), (sh, .inr (1, [.ref r1, .ref r2, .ref r3, .ref r4, .int (nI rc), .int (nI bo), .int lv])), (r1, .inr (0, [.ref j1, .int (nI L1.length)])), (j1, .inl (cI, 30, .inl f1)), (r2, .inr (0, [.ref j2, .int (nI L2.length)])), (j2, .inl (cI, 30, .inl f2)), (r3, .inr (0, [.ref j3, .int (nI L3.length)])), (j3, .inl (cI, 30, .inl f3)), (r4, .inr (0, [.ref j4, .int (nI L4.length)])), (j4, .inl (cI, 30, .inl f4)), (r5, .inr (0, [.ref j5, .int (nI P.length)])), (j5, .inl (cI, 30, .inl f5)), (r6, .inr (0, [.ref j6, .int (nI M.length)])), (j6, .inl (cI, 30, .inl f6))] H_34 := hP1
  have hD : va_D A [(aa, .inl (cI, 30, .inl KA)), (ta, .inl (cI, 30, .inl TA)), (gp, .inr (2, [.ref sh, .ref r5, .ref r6, .ref aa, .ref ta, .int nA, .int nH, .int nP, .int nM, .ref ts, .ref t5])), (sh, .inr (1, [.ref r1, .ref r2, .ref r3, .ref r4, .int (nI rc), .int (nI bo), .int lv])), (r1, .inr (0, [.ref j1, .int (nI L1.length)])), (j1, .inl (cI, 30, .inl f1)), (r2, .inr (0, [.ref j2, .int (nI L2.length)])), (j2, .inl (cI, 30, .inl f2)), (r3, .inr (0, [.ref j3, .int (nI L3.length)])), (j3, .inl (cI, 30, .inl f3)), (r4, .inr (0, [.ref j4, .int (nI L4.length)])), (j4, .inl (cI, 30, .inl f4)), (r5, .inr (0, [.ref j5, .int (nI P.length)])), (j5, .inl (cI, 30, .inl f5)), (r6, .inr (0, [.ref j6, .int (nI M.length)])), (j6, .inl (cI, 30, .inl f6))] := hD1
  have hS := hS1
  clear hP1 hD1 hS1
  refine lv_i2l hx hb dX2_digest_22 rfl ?_
  refine lv_ladd hx hb dX2_digest_23 ?_
  refine lv_lstore_n (lv' := [(1, .long (dg (dg (dg (dg (dg (dg (dg (dg (dg 1427 ((nI rc))) ((nI L1.length))) ((nI L2.length))) ((nI L3.length))) ((nI L4.length))) ((nI P.length))) ((nI M.length))) ((nI bo))) (nA))), (3, .int (nI 8)), (0, .ref gp)]) hx hb dX2_digest_24 rfl hl (by decide) rfl (fun ls hl1 => ?_)
  clear hl
  have hl := hl1
  clear hl1
  refine lv_iinc (v := (nI 9)) (lv' := [(3, .int (nI 9)), (1, .long (dg (dg (dg (dg (dg (dg (dg (dg (dg 1427 ((nI rc))) ((nI L1.length))) ((nI L2.length))) ((nI L3.length))) ((nI L4.length))) ((nI P.length))) ((nI M.length))) ((nI bo))) (nA))), (0, .ref gp)]) hx hb dX2_digest_25 hl (k := 1) rfl (by decide +kernel) (by decide) rfl (fun ls hl => ?_)
  refine lv_goto (tgt := 6) hx hb dX2_digest_28 (by decide) ?_
  refine lv_iload_n hx hb dX2_digest_6 rfl (lv_at hl 0 rfl) ?_
  refine lv_bipush (v := (nI 12)) hx hb dX2_digest_7 (by decide +kernel) ?_
  refine g_icmp_ge (tgt := 31) hx hb dX2_digest_9 (by decide) (by decide) (by decide) (fun c_37 => False.elim (by omega)) (fun c_37 => ?_)
  refine lv_lload_n hx hb dX2_digest_12 rfl (lv_at hl 1 rfl) ?_
  refine lv_ldc2 (v := 31) hx hb hown (hts (.constantLong RX2 165 (31)) (by decide +kernel)) dX2_digest_13 ?_
  refine lv_lmul hx hb dX2_digest_16 ?_
  refine lv_aload_n hx hb dX2_digest_17 rfl (lv_at hl 2 rfl) ?_
  refine lv_iload_n hx hb dX2_digest_18 rfl (lv_at hl 0 rfl) ?_
  have hPc := hP.sub (ws' := [(gp, .inr (2, [.ref sh, .ref r5, .ref r6, .ref aa, .ref ta, .int nA, .int nH, .int nP, .int nM, .ref ts, .ref t5])), (sh, .inr (1, [.ref r1, .ref r2, .ref r3, .ref r4, .int (nI rc), .int (nI bo), .int lv])), (r1, .inr (0, [.ref j1, .int (nI L1.length)])), (j1, .inl (cI, 30, .inl f1)), (r2, .inr (0, [.ref j2, .int (nI L2.length)])), (j2, .inl (cI, 30, .inl f2)), (r3, .inr (0, [.ref j3, .int (nI L3.length)])), (j3, .inl (cI, 30, .inl f3)), (r4, .inr (0, [.ref j4, .int (nI L4.length)])), (j4, .inl (cI, 30, .inl f4)), (r5, .inr (0, [.ref j5, .int (nI P.length)])), (j5, .inl (cI, 30, .inl f5)), (r6, .inr (0, [.ref j6, .int (nI M.length)])), (j6, .inl (cI, 30, .inl f6))]) [2, 3, 4, 5, 6, 7, 8, 9, 10, 11, 12, 13, 14, 15] rfl
  have hDc := hD.sub (ws' := [(gp, .inr (2, [.ref sh, .ref r5, .ref r6, .ref aa, .ref ta, .int nA, .int nH, .int nP, .int nM, .ref ts, .ref t5])), (sh, .inr (1, [.ref r1, .ref r2, .ref r3, .ref r4, .int (nI rc), .int (nI bo), .int lv])), (r1, .inr (0, [.ref j1, .int (nI L1.length)])), (j1, .inl (cI, 30, .inl f1)), (r2, .inr (0, [.ref j2, .int (nI L2.length)])), (j2, .inl (cI, 30, .inl f2)), (r3, .inr (0, [.ref j3, .int (nI L3.length)])), (j3, .inl (cI, 30, .inl f3)), (r4, .inr (0, [.ref j4, .int (nI L4.length)])), (j4, .inl (cI, 30, .inl f4)), (r5, .inr (0, [.ref j5, .int (nI P.length)])), (j5, .inl (cI, 30, .inl f5)), (r6, .inr (0, [.ref j6, .int (nI M.length)])), (j6, .inl (cI, 30, .inl f6))]) [2, 3, 4, 5, 6, 7, 8, 9, 10, 11, 12, 13, 14, 15] (by decide) rfl
  have hKc := hK.sub (tys' := [(cI, .int)]) [0] rfl
  have hFc := va_free (wc := [(gp, .inr (2, [.ref sh, .ref r5, .ref r6, .ref aa, .ref ta, .int nA, .int nH, .int nP, .int nM, .ref ts, .ref t5])), (sh, .inr (1, [.ref r1, .ref r2, .ref r3, .ref r4, .int (nI rc), .int (nI bo), .int lv])), (r1, .inr (0, [.ref j1, .int (nI L1.length)])), (j1, .inl (cI, 30, .inl f1)), (r2, .inr (0, [.ref j2, .int (nI L2.length)])), (j2, .inl (cI, 30, .inl f2)), (r3, .inr (0, [.ref j3, .int (nI L3.length)])), (j3, .inl (cI, 30, .inl f3)), (r4, .inr (0, [.ref j4, .int (nI L4.length)])), (j4, .inl (cI, 30, .inl f4)), (r5, .inr (0, [.ref j5, .int (nI P.length)])), (j5, .inl (cI, 30, .inl f5)), (r6, .inr (0, [.ref j6, .int (nI M.length)])), (j6, .inl (cI, 30, .inl f6))]) hD hS hA [2, 3, 4, 5, 6, 7, 8, 9, 10, 11, 12, 13, 14, 15] rfl
  refine va_calli (va_runV (As := [.int (nI 9)]) (rest := [.long ((dg (dg (dg (dg (dg (dg (dg (dg (dg 1427 ((nI rc))) ((nI L1.length))) ((nI L2.length))) ((nI L3.length))) ((nI L4.length))) ((nI P.length))) ((nI M.length))) ((nI bo))) (nA)) * 31)]) ⟨hx, hb, hml, hown, hts⟩ (c_X2_count_9 l G cI gp sh r5 r6 aa ta ts t5 nA nH nP nM r1 r2 r3 r4 j1 j2 j3 j4 f1 f2 f3 f4 L1 L2 L3 L4 rc bo lv hR1 hR2 hR3 hR4 j5 f5 P hR5 j6 f6 M hR6 hn h3 hm1 H_34.size) (cwV 1 hts gX2_digest_X2_count rfl rfl rfl (by decide +kernel) ⟨Nat.le_of_ble_eq_true rfl, Nat.le_of_ble_eq_true rfl⟩) (g_preVN (As := [.int (nI 9)]) hPc hKc hDc 0 rfl rfl hN) rfl rfl hl.1 rfl (lv_room (Nat.le_of_ble_eq_true rfl)) dX2_digest_19 ⟨(Nat.le_of_ble_eq_true rfl), (Nat.le_of_ble_eq_true rfl)⟩) hS (fun q _ h => hFc q h) hFc (fun r_39 u_40 t H_38 locs ht hvm hw hB hz1 hk1 hS1 => ?_)
  have hw := hw.symm
  subst hw
  obtain ⟨hP1, hD1⟩ := g_join (wc := [(gp, .inr (2, [.ref sh, .ref r5, .ref r6, .ref aa, .ref ta, .int nA, .int nH, .int nP, .int nM, .ref ts, .ref t5])), (sh, .inr (1, [.ref r1, .ref r2, .ref r3, .ref r4, .int (nI rc), .int (nI bo), .int lv])), (r1, .inr (0, [.ref j1, .int (nI L1.length)])), (j1, .inl (cI, 30, .inl f1)), (r2, .inr (0, [.ref j2, .int (nI L2.length)])), (j2, .inl (cI, 30, .inl f2)), (r3, .inr (0, [.ref j3, .int (nI L3.length)])), (j3, .inl (cI, 30, .inl f3)), (r4, .inr (0, [.ref j4, .int (nI L4.length)])), (j4, .inl (cI, 30, .inl f4)), (r5, .inr (0, [.ref j5, .int (nI P.length)])), (j5, .inl (cI, 30, .inl f5)), (r6, .inr (0, [.ref j6, .int (nI M.length)])), (j6, .inl (cI, 30, .inl f6))]) (wr := [(aa, .inl (cI, 30, .inl KA)), (ta, .inl (cI, 30, .inl TA))]) (w1 := [(gp, .inr (2, [.ref sh, .ref r5, .ref r6, .ref aa, .ref ta, .int nA, .int nH, .int nP, .int nM, .ref ts, .ref t5])), (sh, .inr (1, [.ref r1, .ref r2, .ref r3, .ref r4, .int (nI rc), .int (nI bo), .int lv])), (r1, .inr (0, [.ref j1, .int (nI L1.length)])), (j1, .inl (cI, 30, .inl f1)), (r2, .inr (0, [.ref j2, .int (nI L2.length)])), (j2, .inl (cI, 30, .inl f2)), (r3, .inr (0, [.ref j3, .int (nI L3.length)])), (j3, .inl (cI, 30, .inl f3)), (r4, .inr (0, [.ref j4, .int (nI L4.length)])), (j4, .inl (cI, 30, .inl f4)), (r5, .inr (0, [.ref j5, .int (nI P.length)])), (j5, .inl (cI, 30, .inl f5)), (r6, .inr (0, [.ref j6, .int (nI M.length)])), (j6, .inl (cI, 30, .inl f6))]) hP hD [2, 3, 4, 5, 6, 7, 8, 9, 10, 11, 12, 13, 14, 15] [0, 1] rfl rfl (by decide) (by decide) ht hk1 hFc hB
  clear hB hk1 hz1 hvm ht hPc hDc hKc hFc
  clear hP hD hS
  have hP : va_P G vwCl [(aa, .inl (cI, 30, .inl KA)), (ta, .inl (cI, 30, .inl TA)), (gp, .inr (2, [.ref sh, .ref r5, .ref r6, .ref aa, .ref ta, .int nA, .int nH, .int nP, .int nM, .ref ts, .ref t5])), (sh, .inr (1, [.ref r1, .ref r2, .ref r3, .ref r4, .int (nI rc), .int (nI bo), .int lv])), (r1, .inr (0, [.ref j1, .int (nI L1.length)])), (j1, .inl (cI, 30, .inl f1)), (r2, .inr (0, [.ref j2, .int (nI L2.length)])), (j2, .inl (cI, 30, .inl f2)), (r3, .inr (0, [.ref j3, .int (nI L3.length)])), (j3, .inl (cI, 30, .inl f3)), (r4, .inr (0, [.ref j4, .int (nI L4.length)])), (j4, .inl (cI, 30, .inl f4)), (r5, .inr (0, [.ref j5, .int (nI P.length)])), (j5, .inl (cI, 30, .inl f5)), (r6, .inr (0, [.ref j6, .int (nI M.length)])), (j6, .inl (cI, 30, .inl f6))] H_38 := hP1
  have hD : va_D A [(aa, .inl (cI, 30, .inl KA)), (ta, .inl (cI, 30, .inl TA)), (gp, .inr (2, [.ref sh, .ref r5, .ref r6, .ref aa, .ref ta, .int nA, .int nH, .int nP, .int nM, .ref ts, .ref t5])), (sh, .inr (1, [.ref r1, .ref r2, .ref r3, .ref r4, .int (nI rc), .int (nI bo), .int lv])), (r1, .inr (0, [.ref j1, .int (nI L1.length)])), (j1, .inl (cI, 30, .inl f1)), (r2, .inr (0, [.ref j2, .int (nI L2.length)])), (j2, .inl (cI, 30, .inl f2)), (r3, .inr (0, [.ref j3, .int (nI L3.length)])), (j3, .inl (cI, 30, .inl f3)), (r4, .inr (0, [.ref j4, .int (nI L4.length)])), (j4, .inl (cI, 30, .inl f4)), (r5, .inr (0, [.ref j5, .int (nI P.length)])), (j5, .inl (cI, 30, .inl f5)), (r6, .inr (0, [.ref j6, .int (nI M.length)])), (j6, .inl (cI, 30, .inl f6))] := hD1
  have hS := hS1
  clear hP1 hD1 hS1
  refine lv_i2l hx hb dX2_digest_22 rfl ?_
  refine lv_ladd hx hb dX2_digest_23 ?_
  refine lv_lstore_n (lv' := [(1, .long (dg (dg (dg (dg (dg (dg (dg (dg (dg (dg 1427 ((nI rc))) ((nI L1.length))) ((nI L2.length))) ((nI L3.length))) ((nI L4.length))) ((nI P.length))) ((nI M.length))) ((nI bo))) (nA)) (nH))), (3, .int (nI 9)), (0, .ref gp)]) hx hb dX2_digest_24 rfl hl (by decide) rfl (fun ls hl1 => ?_)
  clear hl
  have hl := hl1
  clear hl1
  refine lv_iinc (v := (nI 10)) (lv' := [(3, .int (nI 10)), (1, .long (dg (dg (dg (dg (dg (dg (dg (dg (dg (dg 1427 ((nI rc))) ((nI L1.length))) ((nI L2.length))) ((nI L3.length))) ((nI L4.length))) ((nI P.length))) ((nI M.length))) ((nI bo))) (nA)) (nH))), (0, .ref gp)]) hx hb dX2_digest_25 hl (k := 1) rfl (by decide +kernel) (by decide) rfl (fun ls hl => ?_)
  refine lv_goto (tgt := 6) hx hb dX2_digest_28 (by decide) ?_
  refine lv_iload_n hx hb dX2_digest_6 rfl (lv_at hl 0 rfl) ?_
  refine lv_bipush (v := (nI 12)) hx hb dX2_digest_7 (by decide +kernel) ?_
  refine g_icmp_ge (tgt := 31) hx hb dX2_digest_9 (by decide) (by decide) (by decide) (fun c_41 => False.elim (by omega)) (fun c_41 => ?_)
  refine lv_lload_n hx hb dX2_digest_12 rfl (lv_at hl 1 rfl) ?_
  refine lv_ldc2 (v := 31) hx hb hown (hts (.constantLong RX2 165 (31)) (by decide +kernel)) dX2_digest_13 ?_
  refine lv_lmul hx hb dX2_digest_16 ?_
  refine lv_aload_n hx hb dX2_digest_17 rfl (lv_at hl 2 rfl) ?_
  refine lv_iload_n hx hb dX2_digest_18 rfl (lv_at hl 0 rfl) ?_
  have hPc := hP.sub (ws' := [(gp, .inr (2, [.ref sh, .ref r5, .ref r6, .ref aa, .ref ta, .int nA, .int nH, .int nP, .int nM, .ref ts, .ref t5])), (sh, .inr (1, [.ref r1, .ref r2, .ref r3, .ref r4, .int (nI rc), .int (nI bo), .int lv])), (r1, .inr (0, [.ref j1, .int (nI L1.length)])), (j1, .inl (cI, 30, .inl f1)), (r2, .inr (0, [.ref j2, .int (nI L2.length)])), (j2, .inl (cI, 30, .inl f2)), (r3, .inr (0, [.ref j3, .int (nI L3.length)])), (j3, .inl (cI, 30, .inl f3)), (r4, .inr (0, [.ref j4, .int (nI L4.length)])), (j4, .inl (cI, 30, .inl f4)), (r5, .inr (0, [.ref j5, .int (nI P.length)])), (j5, .inl (cI, 30, .inl f5)), (r6, .inr (0, [.ref j6, .int (nI M.length)])), (j6, .inl (cI, 30, .inl f6))]) [2, 3, 4, 5, 6, 7, 8, 9, 10, 11, 12, 13, 14, 15] rfl
  have hDc := hD.sub (ws' := [(gp, .inr (2, [.ref sh, .ref r5, .ref r6, .ref aa, .ref ta, .int nA, .int nH, .int nP, .int nM, .ref ts, .ref t5])), (sh, .inr (1, [.ref r1, .ref r2, .ref r3, .ref r4, .int (nI rc), .int (nI bo), .int lv])), (r1, .inr (0, [.ref j1, .int (nI L1.length)])), (j1, .inl (cI, 30, .inl f1)), (r2, .inr (0, [.ref j2, .int (nI L2.length)])), (j2, .inl (cI, 30, .inl f2)), (r3, .inr (0, [.ref j3, .int (nI L3.length)])), (j3, .inl (cI, 30, .inl f3)), (r4, .inr (0, [.ref j4, .int (nI L4.length)])), (j4, .inl (cI, 30, .inl f4)), (r5, .inr (0, [.ref j5, .int (nI P.length)])), (j5, .inl (cI, 30, .inl f5)), (r6, .inr (0, [.ref j6, .int (nI M.length)])), (j6, .inl (cI, 30, .inl f6))]) [2, 3, 4, 5, 6, 7, 8, 9, 10, 11, 12, 13, 14, 15] (by decide) rfl
  have hKc := hK.sub (tys' := [(cI, .int)]) [0] rfl
  have hFc := va_free (wc := [(gp, .inr (2, [.ref sh, .ref r5, .ref r6, .ref aa, .ref ta, .int nA, .int nH, .int nP, .int nM, .ref ts, .ref t5])), (sh, .inr (1, [.ref r1, .ref r2, .ref r3, .ref r4, .int (nI rc), .int (nI bo), .int lv])), (r1, .inr (0, [.ref j1, .int (nI L1.length)])), (j1, .inl (cI, 30, .inl f1)), (r2, .inr (0, [.ref j2, .int (nI L2.length)])), (j2, .inl (cI, 30, .inl f2)), (r3, .inr (0, [.ref j3, .int (nI L3.length)])), (j3, .inl (cI, 30, .inl f3)), (r4, .inr (0, [.ref j4, .int (nI L4.length)])), (j4, .inl (cI, 30, .inl f4)), (r5, .inr (0, [.ref j5, .int (nI P.length)])), (j5, .inl (cI, 30, .inl f5)), (r6, .inr (0, [.ref j6, .int (nI M.length)])), (j6, .inl (cI, 30, .inl f6))]) hD hS hA [2, 3, 4, 5, 6, 7, 8, 9, 10, 11, 12, 13, 14, 15] rfl
  refine va_calli (va_runV (As := [.int (nI 10)]) (rest := [.long ((dg (dg (dg (dg (dg (dg (dg (dg (dg (dg 1427 ((nI rc))) ((nI L1.length))) ((nI L2.length))) ((nI L3.length))) ((nI L4.length))) ((nI P.length))) ((nI M.length))) ((nI bo))) (nA)) (nH)) * 31)]) ⟨hx, hb, hml, hown, hts⟩ (c_X2_count_10 l G cI gp sh r5 r6 aa ta ts t5 nA nH nP nM r1 r2 r3 r4 j1 j2 j3 j4 f1 f2 f3 f4 L1 L2 L3 L4 rc bo lv hR1 hR2 hR3 hR4 j5 f5 P hR5 j6 f6 M hR6 hn h3 hm1 H_38.size) (cwV 1 hts gX2_digest_X2_count rfl rfl rfl (by decide +kernel) ⟨Nat.le_of_ble_eq_true rfl, Nat.le_of_ble_eq_true rfl⟩) (g_preVN (As := [.int (nI 10)]) hPc hKc hDc 0 rfl rfl hN) rfl rfl hl.1 rfl (lv_room (Nat.le_of_ble_eq_true rfl)) dX2_digest_19 ⟨(Nat.le_of_ble_eq_true rfl), (Nat.le_of_ble_eq_true rfl)⟩) hS (fun q _ h => hFc q h) hFc (fun r_43 u_44 t H_42 locs ht hvm hw hB hz1 hk1 hS1 => ?_)
  have hw := hw.symm
  subst hw
  obtain ⟨hP1, hD1⟩ := g_join (wc := [(gp, .inr (2, [.ref sh, .ref r5, .ref r6, .ref aa, .ref ta, .int nA, .int nH, .int nP, .int nM, .ref ts, .ref t5])), (sh, .inr (1, [.ref r1, .ref r2, .ref r3, .ref r4, .int (nI rc), .int (nI bo), .int lv])), (r1, .inr (0, [.ref j1, .int (nI L1.length)])), (j1, .inl (cI, 30, .inl f1)), (r2, .inr (0, [.ref j2, .int (nI L2.length)])), (j2, .inl (cI, 30, .inl f2)), (r3, .inr (0, [.ref j3, .int (nI L3.length)])), (j3, .inl (cI, 30, .inl f3)), (r4, .inr (0, [.ref j4, .int (nI L4.length)])), (j4, .inl (cI, 30, .inl f4)), (r5, .inr (0, [.ref j5, .int (nI P.length)])), (j5, .inl (cI, 30, .inl f5)), (r6, .inr (0, [.ref j6, .int (nI M.length)])), (j6, .inl (cI, 30, .inl f6))]) (wr := [(aa, .inl (cI, 30, .inl KA)), (ta, .inl (cI, 30, .inl TA))]) (w1 := [(gp, .inr (2, [.ref sh, .ref r5, .ref r6, .ref aa, .ref ta, .int nA, .int nH, .int nP, .int nM, .ref ts, .ref t5])), (sh, .inr (1, [.ref r1, .ref r2, .ref r3, .ref r4, .int (nI rc), .int (nI bo), .int lv])), (r1, .inr (0, [.ref j1, .int (nI L1.length)])), (j1, .inl (cI, 30, .inl f1)), (r2, .inr (0, [.ref j2, .int (nI L2.length)])), (j2, .inl (cI, 30, .inl f2)), (r3, .inr (0, [.ref j3, .int (nI L3.length)])), (j3, .inl (cI, 30, .inl f3)), (r4, .inr (0, [.ref j4, .int (nI L4.length)])), (j4, .inl (cI, 30, .inl f4)), (r5, .inr (0, [.ref j5, .int (nI P.length)])), (j5, .inl (cI, 30, .inl f5)), (r6, .inr (0, [.ref j6, .int (nI M.length)])), (j6, .inl (cI, 30, .inl f6))]) hP hD [2, 3, 4, 5, 6, 7, 8, 9, 10, 11, 12, 13, 14, 15] [0, 1] rfl rfl (by decide) (by decide) ht hk1 hFc hB
  clear hB hk1 hz1 hvm ht hPc hDc hKc hFc
  clear hP hD hS
  have hP : va_P G vwCl [(aa, .inl (cI, 30, .inl KA)), (ta, .inl (cI, 30, .inl TA)), (gp, .inr (2, [.ref sh, .ref r5, .ref r6, .ref aa, .ref ta, .int nA, .int nH, .int nP, .int nM, .ref ts, .ref t5])), (sh, .inr (1, [.ref r1, .ref r2, .ref r3, .ref r4, .int (nI rc), .int (nI bo), .int lv])), (r1, .inr (0, [.ref j1, .int (nI L1.length)])), (j1, .inl (cI, 30, .inl f1)), (r2, .inr (0, [.ref j2, .int (nI L2.length)])), (j2, .inl (cI, 30, .inl f2)), (r3, .inr (0, [.ref j3, .int (nI L3.length)])), (j3, .inl (cI, 30, .inl f3)), (r4, .inr (0, [.ref j4, .int (nI L4.length)])), (j4, .inl (cI, 30, .inl f4)), (r5, .inr (0, [.ref j5, .int (nI P.length)])), (j5, .inl (cI, 30, .inl f5)), (r6, .inr (0, [.ref j6, .int (nI M.length)])), (j6, .inl (cI, 30, .inl f6))] H_42 := hP1
  have hD : va_D A [(aa, .inl (cI, 30, .inl KA)), (ta, .inl (cI, 30, .inl TA)), (gp, .inr (2, [.ref sh, .ref r5, .ref r6, .ref aa, .ref ta, .int nA, .int nH, .int nP, .int nM, .ref ts, .ref t5])), (sh, .inr (1, [.ref r1, .ref r2, .ref r3, .ref r4, .int (nI rc), .int (nI bo), .int lv])), (r1, .inr (0, [.ref j1, .int (nI L1.length)])), (j1, .inl (cI, 30, .inl f1)), (r2, .inr (0, [.ref j2, .int (nI L2.length)])), (j2, .inl (cI, 30, .inl f2)), (r3, .inr (0, [.ref j3, .int (nI L3.length)])), (j3, .inl (cI, 30, .inl f3)), (r4, .inr (0, [.ref j4, .int (nI L4.length)])), (j4, .inl (cI, 30, .inl f4)), (r5, .inr (0, [.ref j5, .int (nI P.length)])), (j5, .inl (cI, 30, .inl f5)), (r6, .inr (0, [.ref j6, .int (nI M.length)])), (j6, .inl (cI, 30, .inl f6))] := hD1
  have hS := hS1
  clear hP1 hD1 hS1
  refine lv_i2l hx hb dX2_digest_22 rfl ?_
  refine lv_ladd hx hb dX2_digest_23 ?_
  refine lv_lstore_n (lv' := [(1, .long (dg (dg (dg (dg (dg (dg (dg (dg (dg (dg (dg 1427 ((nI rc))) ((nI L1.length))) ((nI L2.length))) ((nI L3.length))) ((nI L4.length))) ((nI P.length))) ((nI M.length))) ((nI bo))) (nA)) (nH)) (nP))), (3, .int (nI 10)), (0, .ref gp)]) hx hb dX2_digest_24 rfl hl (by decide) rfl (fun ls hl1 => ?_)
  clear hl
  have hl := hl1
  clear hl1
  refine lv_iinc (v := (nI 11)) (lv' := [(3, .int (nI 11)), (1, .long (dg (dg (dg (dg (dg (dg (dg (dg (dg (dg (dg 1427 ((nI rc))) ((nI L1.length))) ((nI L2.length))) ((nI L3.length))) ((nI L4.length))) ((nI P.length))) ((nI M.length))) ((nI bo))) (nA)) (nH)) (nP))), (0, .ref gp)]) hx hb dX2_digest_25 hl (k := 1) rfl (by decide +kernel) (by decide) rfl (fun ls hl => ?_)
  refine lv_goto (tgt := 6) hx hb dX2_digest_28 (by decide) ?_
  refine lv_iload_n hx hb dX2_digest_6 rfl (lv_at hl 0 rfl) ?_
  refine lv_bipush (v := (nI 12)) hx hb dX2_digest_7 (by decide +kernel) ?_
  refine g_icmp_ge (tgt := 31) hx hb dX2_digest_9 (by decide) (by decide) (by decide) (fun c_45 => False.elim (by omega)) (fun c_45 => ?_)
  refine lv_lload_n hx hb dX2_digest_12 rfl (lv_at hl 1 rfl) ?_
  refine lv_ldc2 (v := 31) hx hb hown (hts (.constantLong RX2 165 (31)) (by decide +kernel)) dX2_digest_13 ?_
  refine lv_lmul hx hb dX2_digest_16 ?_
  refine lv_aload_n hx hb dX2_digest_17 rfl (lv_at hl 2 rfl) ?_
  refine lv_iload_n hx hb dX2_digest_18 rfl (lv_at hl 0 rfl) ?_
  have hPc := hP.sub (ws' := [(gp, .inr (2, [.ref sh, .ref r5, .ref r6, .ref aa, .ref ta, .int nA, .int nH, .int nP, .int nM, .ref ts, .ref t5])), (sh, .inr (1, [.ref r1, .ref r2, .ref r3, .ref r4, .int (nI rc), .int (nI bo), .int lv])), (r1, .inr (0, [.ref j1, .int (nI L1.length)])), (j1, .inl (cI, 30, .inl f1)), (r2, .inr (0, [.ref j2, .int (nI L2.length)])), (j2, .inl (cI, 30, .inl f2)), (r3, .inr (0, [.ref j3, .int (nI L3.length)])), (j3, .inl (cI, 30, .inl f3)), (r4, .inr (0, [.ref j4, .int (nI L4.length)])), (j4, .inl (cI, 30, .inl f4)), (r5, .inr (0, [.ref j5, .int (nI P.length)])), (j5, .inl (cI, 30, .inl f5)), (r6, .inr (0, [.ref j6, .int (nI M.length)])), (j6, .inl (cI, 30, .inl f6))]) [2, 3, 4, 5, 6, 7, 8, 9, 10, 11, 12, 13, 14, 15] rfl
  have hDc := hD.sub (ws' := [(gp, .inr (2, [.ref sh, .ref r5, .ref r6, .ref aa, .ref ta, .int nA, .int nH, .int nP, .int nM, .ref ts, .ref t5])), (sh, .inr (1, [.ref r1, .ref r2, .ref r3, .ref r4, .int (nI rc), .int (nI bo), .int lv])), (r1, .inr (0, [.ref j1, .int (nI L1.length)])), (j1, .inl (cI, 30, .inl f1)), (r2, .inr (0, [.ref j2, .int (nI L2.length)])), (j2, .inl (cI, 30, .inl f2)), (r3, .inr (0, [.ref j3, .int (nI L3.length)])), (j3, .inl (cI, 30, .inl f3)), (r4, .inr (0, [.ref j4, .int (nI L4.length)])), (j4, .inl (cI, 30, .inl f4)), (r5, .inr (0, [.ref j5, .int (nI P.length)])), (j5, .inl (cI, 30, .inl f5)), (r6, .inr (0, [.ref j6, .int (nI M.length)])), (j6, .inl (cI, 30, .inl f6))]) [2, 3, 4, 5, 6, 7, 8, 9, 10, 11, 12, 13, 14, 15] (by decide) rfl
  have hKc := hK.sub (tys' := [(cI, .int)]) [0] rfl
  have hFc := va_free (wc := [(gp, .inr (2, [.ref sh, .ref r5, .ref r6, .ref aa, .ref ta, .int nA, .int nH, .int nP, .int nM, .ref ts, .ref t5])), (sh, .inr (1, [.ref r1, .ref r2, .ref r3, .ref r4, .int (nI rc), .int (nI bo), .int lv])), (r1, .inr (0, [.ref j1, .int (nI L1.length)])), (j1, .inl (cI, 30, .inl f1)), (r2, .inr (0, [.ref j2, .int (nI L2.length)])), (j2, .inl (cI, 30, .inl f2)), (r3, .inr (0, [.ref j3, .int (nI L3.length)])), (j3, .inl (cI, 30, .inl f3)), (r4, .inr (0, [.ref j4, .int (nI L4.length)])), (j4, .inl (cI, 30, .inl f4)), (r5, .inr (0, [.ref j5, .int (nI P.length)])), (j5, .inl (cI, 30, .inl f5)), (r6, .inr (0, [.ref j6, .int (nI M.length)])), (j6, .inl (cI, 30, .inl f6))]) hD hS hA [2, 3, 4, 5, 6, 7, 8, 9, 10, 11, 12, 13, 14, 15] rfl
  refine va_calli (va_runV (As := [.int (nI 11)]) (rest := [.long ((dg (dg (dg (dg (dg (dg (dg (dg (dg (dg (dg 1427 ((nI rc))) ((nI L1.length))) ((nI L2.length))) ((nI L3.length))) ((nI L4.length))) ((nI P.length))) ((nI M.length))) ((nI bo))) (nA)) (nH)) (nP)) * 31)]) ⟨hx, hb, hml, hown, hts⟩ (c_X2_count_11 l G cI gp sh r5 r6 aa ta ts t5 nA nH nP nM r1 r2 r3 r4 j1 j2 j3 j4 f1 f2 f3 f4 L1 L2 L3 L4 rc bo lv hR1 hR2 hR3 hR4 j5 f5 P hR5 j6 f6 M hR6 hn h3 hm1 H_42.size) (cwV 1 hts gX2_digest_X2_count rfl rfl rfl (by decide +kernel) ⟨Nat.le_of_ble_eq_true rfl, Nat.le_of_ble_eq_true rfl⟩) (g_preVN (As := [.int (nI 11)]) hPc hKc hDc 0 rfl rfl hN) rfl rfl hl.1 rfl (lv_room (Nat.le_of_ble_eq_true rfl)) dX2_digest_19 ⟨(Nat.le_of_ble_eq_true rfl), (Nat.le_of_ble_eq_true rfl)⟩) hS (fun q _ h => hFc q h) hFc (fun r_47 u_48 t H_46 locs ht hvm hw hB hz1 hk1 hS1 => ?_)
  have hw := hw.symm
  subst hw
  obtain ⟨hP1, hD1⟩ := g_join (wc := [(gp, .inr (2, [.ref sh, .ref r5, .ref r6, .ref aa, .ref ta, .int nA, .int nH, .int nP, .int nM, .ref ts, .ref t5])), (sh, .inr (1, [.ref r1, .ref r2, .ref r3, .ref r4, .int (nI rc), .int (nI bo), .int lv])), (r1, .inr (0, [.ref j1, .int (nI L1.length)])), (j1, .inl (cI, 30, .inl f1)), (r2, .inr (0, [.ref j2, .int (nI L2.length)])), (j2, .inl (cI, 30, .inl f2)), (r3, .inr (0, [.ref j3, .int (nI L3.length)])), (j3, .inl (cI, 30, .inl f3)), (r4, .inr (0, [.ref j4, .int (nI L4.length)])), (j4, .inl (cI, 30, .inl f4)), (r5, .inr (0, [.ref j5, .int (nI P.length)])), (j5, .inl (cI, 30, .inl f5)), (r6, .inr (0, [.ref j6, .int (nI M.length)])), (j6, .inl (cI, 30, .inl f6))]) (wr := [(aa, .inl (cI, 30, .inl KA)), (ta, .inl (cI, 30, .inl TA))]) (w1 := [(gp, .inr (2, [.ref sh, .ref r5, .ref r6, .ref aa, .ref ta, .int nA, .int nH, .int nP, .int nM, .ref ts, .ref t5])), (sh, .inr (1, [.ref r1, .ref r2, .ref r3, .ref r4, .int (nI rc), .int (nI bo), .int lv])), (r1, .inr (0, [.ref j1, .int (nI L1.length)])), (j1, .inl (cI, 30, .inl f1)), (r2, .inr (0, [.ref j2, .int (nI L2.length)])), (j2, .inl (cI, 30, .inl f2)), (r3, .inr (0, [.ref j3, .int (nI L3.length)])), (j3, .inl (cI, 30, .inl f3)), (r4, .inr (0, [.ref j4, .int (nI L4.length)])), (j4, .inl (cI, 30, .inl f4)), (r5, .inr (0, [.ref j5, .int (nI P.length)])), (j5, .inl (cI, 30, .inl f5)), (r6, .inr (0, [.ref j6, .int (nI M.length)])), (j6, .inl (cI, 30, .inl f6))]) hP hD [2, 3, 4, 5, 6, 7, 8, 9, 10, 11, 12, 13, 14, 15] [0, 1] rfl rfl (by decide) (by decide) ht hk1 hFc hB
  clear hB hk1 hz1 hvm ht hPc hDc hKc hFc
  clear hP hD hS
  have hP : va_P G vwCl [(aa, .inl (cI, 30, .inl KA)), (ta, .inl (cI, 30, .inl TA)), (gp, .inr (2, [.ref sh, .ref r5, .ref r6, .ref aa, .ref ta, .int nA, .int nH, .int nP, .int nM, .ref ts, .ref t5])), (sh, .inr (1, [.ref r1, .ref r2, .ref r3, .ref r4, .int (nI rc), .int (nI bo), .int lv])), (r1, .inr (0, [.ref j1, .int (nI L1.length)])), (j1, .inl (cI, 30, .inl f1)), (r2, .inr (0, [.ref j2, .int (nI L2.length)])), (j2, .inl (cI, 30, .inl f2)), (r3, .inr (0, [.ref j3, .int (nI L3.length)])), (j3, .inl (cI, 30, .inl f3)), (r4, .inr (0, [.ref j4, .int (nI L4.length)])), (j4, .inl (cI, 30, .inl f4)), (r5, .inr (0, [.ref j5, .int (nI P.length)])), (j5, .inl (cI, 30, .inl f5)), (r6, .inr (0, [.ref j6, .int (nI M.length)])), (j6, .inl (cI, 30, .inl f6))] H_46 := hP1
  have hD : va_D A [(aa, .inl (cI, 30, .inl KA)), (ta, .inl (cI, 30, .inl TA)), (gp, .inr (2, [.ref sh, .ref r5, .ref r6, .ref aa, .ref ta, .int nA, .int nH, .int nP, .int nM, .ref ts, .ref t5])), (sh, .inr (1, [.ref r1, .ref r2, .ref r3, .ref r4, .int (nI rc), .int (nI bo), .int lv])), (r1, .inr (0, [.ref j1, .int (nI L1.length)])), (j1, .inl (cI, 30, .inl f1)), (r2, .inr (0, [.ref j2, .int (nI L2.length)])), (j2, .inl (cI, 30, .inl f2)), (r3, .inr (0, [.ref j3, .int (nI L3.length)])), (j3, .inl (cI, 30, .inl f3)), (r4, .inr (0, [.ref j4, .int (nI L4.length)])), (j4, .inl (cI, 30, .inl f4)), (r5, .inr (0, [.ref j5, .int (nI P.length)])), (j5, .inl (cI, 30, .inl f5)), (r6, .inr (0, [.ref j6, .int (nI M.length)])), (j6, .inl (cI, 30, .inl f6))] := hD1
  have hS := hS1
  clear hP1 hD1 hS1
  refine lv_i2l hx hb dX2_digest_22 rfl ?_
  refine lv_ladd hx hb dX2_digest_23 ?_
  refine lv_lstore_n (lv' := [(1, .long (dg (dg (dg (dg (dg (dg (dg (dg (dg (dg (dg (dg 1427 ((nI rc))) ((nI L1.length))) ((nI L2.length))) ((nI L3.length))) ((nI L4.length))) ((nI P.length))) ((nI M.length))) ((nI bo))) (nA)) (nH)) (nP)) (nM))), (3, .int (nI 11)), (0, .ref gp)]) hx hb dX2_digest_24 rfl hl (by decide) rfl (fun ls hl1 => ?_)
  clear hl
  have hl := hl1
  clear hl1
  refine lv_iinc (v := (nI 12)) (lv' := [(3, .int (nI 12)), (1, .long (dg (dg (dg (dg (dg (dg (dg (dg (dg (dg (dg (dg 1427 ((nI rc))) ((nI L1.length))) ((nI L2.length))) ((nI L3.length))) ((nI L4.length))) ((nI P.length))) ((nI M.length))) ((nI bo))) (nA)) (nH)) (nP)) (nM))), (0, .ref gp)]) hx hb dX2_digest_25 hl (k := 1) rfl (by decide +kernel) (by decide) rfl (fun ls hl => ?_)
  refine lv_goto (tgt := 6) hx hb dX2_digest_28 (by decide) ?_
  refine lv_iload_n hx hb dX2_digest_6 rfl (lv_at hl 0 rfl) ?_
  refine lv_bipush (v := (nI 12)) hx hb dX2_digest_7 (by decide +kernel) ?_
  refine g_icmp_ge (tgt := 31) hx hb dX2_digest_9 (by decide) (by decide) (by decide) (fun c_49 => ?_) (fun c_49 => False.elim (by omega))
  refine lv_iconst (v := (nI 1)) hx hb dX2_digest_31 (by decide +kernel) ?_
  refine lv_istore_n (lv' := [(3, .int (nI 1)), (1, .long (dg (dg (dg (dg (dg (dg (dg (dg (dg (dg (dg (dg 1427 ((nI rc))) ((nI L1.length))) ((nI L2.length))) ((nI L3.length))) ((nI L4.length))) ((nI P.length))) ((nI M.length))) ((nI bo))) (nA)) (nH)) (nP)) (nM))), (0, .ref gp)]) hx hb dX2_digest_32 rfl hl (by decide) rfl (fun ls hl1 => ?_)
  clear hl
  have hl := hl1
  clear hl1
  refine lv_iload_n hx hb dX2_digest_33 rfl (lv_at hl 0 rfl) ?_
  refine lv_bipush (v := (nI 6)) hx hb dX2_digest_34 (by decide +kernel) ?_
  refine g_icmp_gt (tgt := 91) hx hb dX2_digest_36 (by decide) (by decide) (by decide) (fun c_50 => False.elim (by omega)) (fun c_50 => ?_)
  refine lv_aload_n hx hb dX2_digest_39 rfl (lv_at hl 2 rfl) ?_
  refine lv_iload_n hx hb dX2_digest_40 rfl (lv_at hl 0 rfl) ?_
  have hPc := hP.sub (ws' := [(gp, .inr (2, [.ref sh, .ref r5, .ref r6, .ref aa, .ref ta, .int nA, .int nH, .int nP, .int nM, .ref ts, .ref t5])), (sh, .inr (1, [.ref r1, .ref r2, .ref r3, .ref r4, .int (nI rc), .int (nI bo), .int lv])), (r1, .inr (0, [.ref j1, .int (nI L1.length)])), (j1, .inl (cI, 30, .inl f1)), (r2, .inr (0, [.ref j2, .int (nI L2.length)])), (j2, .inl (cI, 30, .inl f2)), (r3, .inr (0, [.ref j3, .int (nI L3.length)])), (j3, .inl (cI, 30, .inl f3)), (r4, .inr (0, [.ref j4, .int (nI L4.length)])), (j4, .inl (cI, 30, .inl f4)), (r5, .inr (0, [.ref j5, .int (nI P.length)])), (j5, .inl (cI, 30, .inl f5)), (r6, .inr (0, [.ref j6, .int (nI M.length)])), (j6, .inl (cI, 30, .inl f6))]) [2, 3, 4, 5, 6, 7, 8, 9, 10, 11, 12, 13, 14, 15] rfl
  have hDc := hD.sub (ws' := [(gp, .inr (2, [.ref sh, .ref r5, .ref r6, .ref aa, .ref ta, .int nA, .int nH, .int nP, .int nM, .ref ts, .ref t5])), (sh, .inr (1, [.ref r1, .ref r2, .ref r3, .ref r4, .int (nI rc), .int (nI bo), .int lv])), (r1, .inr (0, [.ref j1, .int (nI L1.length)])), (j1, .inl (cI, 30, .inl f1)), (r2, .inr (0, [.ref j2, .int (nI L2.length)])), (j2, .inl (cI, 30, .inl f2)), (r3, .inr (0, [.ref j3, .int (nI L3.length)])), (j3, .inl (cI, 30, .inl f3)), (r4, .inr (0, [.ref j4, .int (nI L4.length)])), (j4, .inl (cI, 30, .inl f4)), (r5, .inr (0, [.ref j5, .int (nI P.length)])), (j5, .inl (cI, 30, .inl f5)), (r6, .inr (0, [.ref j6, .int (nI M.length)])), (j6, .inl (cI, 30, .inl f6))]) [2, 3, 4, 5, 6, 7, 8, 9, 10, 11, 12, 13, 14, 15] (by decide) rfl
  have hKc := hK.sub (tys' := [(cI, .int)]) [0] rfl
  have hFc := va_free (wc := [(gp, .inr (2, [.ref sh, .ref r5, .ref r6, .ref aa, .ref ta, .int nA, .int nH, .int nP, .int nM, .ref ts, .ref t5])), (sh, .inr (1, [.ref r1, .ref r2, .ref r3, .ref r4, .int (nI rc), .int (nI bo), .int lv])), (r1, .inr (0, [.ref j1, .int (nI L1.length)])), (j1, .inl (cI, 30, .inl f1)), (r2, .inr (0, [.ref j2, .int (nI L2.length)])), (j2, .inl (cI, 30, .inl f2)), (r3, .inr (0, [.ref j3, .int (nI L3.length)])), (j3, .inl (cI, 30, .inl f3)), (r4, .inr (0, [.ref j4, .int (nI L4.length)])), (j4, .inl (cI, 30, .inl f4)), (r5, .inr (0, [.ref j5, .int (nI P.length)])), (j5, .inl (cI, 30, .inl f5)), (r6, .inr (0, [.ref j6, .int (nI M.length)])), (j6, .inl (cI, 30, .inl f6))]) hD hS hA [2, 3, 4, 5, 6, 7, 8, 9, 10, 11, 12, 13, 14, 15] rfl
  refine va_callq (va_runV (As := [.int (nI 1)]) (rest := []) ⟨hx, hb, hml, hown, hts⟩ (c_X2_rowNumbered_1 l G cI gp sh r5 r6 aa ta ts t5 nA nH nP nM r1 r2 r3 r4 j1 j2 j3 j4 f1 f2 f3 f4 L1 L2 L3 L4 rc bo lv hR1 hR2 hR3 hR4 j5 f5 P hR5 j6 f6 M hR6  H_46.size) (cwV 1 hts gX2_digest_X2_rowNumbered rfl rfl rfl (by decide +kernel) ⟨Nat.le_of_ble_eq_true rfl, Nat.le_of_ble_eq_true rfl⟩) (g_preV (As := [.int (nI 1)]) hPc hKc hDc 0 rfl rfl) rfl rfl hl.1 rfl (lv_room (Nat.le_of_ble_eq_true rfl)) dX2_digest_41 ⟨(Nat.le_of_ble_eq_true rfl), (Nat.le_of_ble_eq_true rfl)⟩) hS (fun q _ h => hFc q h) hFc (fun r_52 u_53 t H_51 locs ht hvm hw hB hz1 hk1 hS1 => ?_)
  subst hw
  obtain ⟨hP1, hD1⟩ := g_join (wc := [(gp, .inr (2, [.ref sh, .ref r5, .ref r6, .ref aa, .ref ta, .int nA, .int nH, .int nP, .int nM, .ref ts, .ref t5])), (sh, .inr (1, [.ref r1, .ref r2, .ref r3, .ref r4, .int (nI rc), .int (nI bo), .int lv])), (r1, .inr (0, [.ref j1, .int (nI L1.length)])), (j1, .inl (cI, 30, .inl f1)), (r2, .inr (0, [.ref j2, .int (nI L2.length)])), (j2, .inl (cI, 30, .inl f2)), (r3, .inr (0, [.ref j3, .int (nI L3.length)])), (j3, .inl (cI, 30, .inl f3)), (r4, .inr (0, [.ref j4, .int (nI L4.length)])), (j4, .inl (cI, 30, .inl f4)), (r5, .inr (0, [.ref j5, .int (nI P.length)])), (j5, .inl (cI, 30, .inl f5)), (r6, .inr (0, [.ref j6, .int (nI M.length)])), (j6, .inl (cI, 30, .inl f6))]) (wr := [(aa, .inl (cI, 30, .inl KA)), (ta, .inl (cI, 30, .inl TA))]) (w1 := [(gp, .inr (2, [.ref sh, .ref r5, .ref r6, .ref aa, .ref ta, .int nA, .int nH, .int nP, .int nM, .ref ts, .ref t5])), (sh, .inr (1, [.ref r1, .ref r2, .ref r3, .ref r4, .int (nI rc), .int (nI bo), .int lv])), (r1, .inr (0, [.ref j1, .int (nI L1.length)])), (j1, .inl (cI, 30, .inl f1)), (r2, .inr (0, [.ref j2, .int (nI L2.length)])), (j2, .inl (cI, 30, .inl f2)), (r3, .inr (0, [.ref j3, .int (nI L3.length)])), (j3, .inl (cI, 30, .inl f3)), (r4, .inr (0, [.ref j4, .int (nI L4.length)])), (j4, .inl (cI, 30, .inl f4)), (r5, .inr (0, [.ref j5, .int (nI P.length)])), (j5, .inl (cI, 30, .inl f5)), (r6, .inr (0, [.ref j6, .int (nI M.length)])), (j6, .inl (cI, 30, .inl f6))]) hP hD [2, 3, 4, 5, 6, 7, 8, 9, 10, 11, 12, 13, 14, 15] [0, 1] rfl rfl (by decide) (by decide) ht hk1 hFc hB
  clear hB hk1 hz1 hvm ht hPc hDc hKc hFc
  clear hP hD hS
  have hP : va_P G vwCl [(aa, .inl (cI, 30, .inl KA)), (ta, .inl (cI, 30, .inl TA)), (gp, .inr (2, [.ref sh, .ref r5, .ref r6, .ref aa, .ref ta, .int nA, .int nH, .int nP, .int nM, .ref ts, .ref t5])), (sh, .inr (1, [.ref r1, .ref r2, .ref r3, .ref r4, .int (nI rc), .int (nI bo), .int lv])), (r1, .inr (0, [.ref j1, .int (nI L1.length)])), (j1, .inl (cI, 30, .inl f1)), (r2, .inr (0, [.ref j2, .int (nI L2.length)])), (j2, .inl (cI, 30, .inl f2)), (r3, .inr (0, [.ref j3, .int (nI L3.length)])), (j3, .inl (cI, 30, .inl f3)), (r4, .inr (0, [.ref j4, .int (nI L4.length)])), (j4, .inl (cI, 30, .inl f4)), (r5, .inr (0, [.ref j5, .int (nI P.length)])), (j5, .inl (cI, 30, .inl f5)), (r6, .inr (0, [.ref j6, .int (nI M.length)])), (j6, .inl (cI, 30, .inl f6))] H_51 := hP1
  have hD : va_D A [(aa, .inl (cI, 30, .inl KA)), (ta, .inl (cI, 30, .inl TA)), (gp, .inr (2, [.ref sh, .ref r5, .ref r6, .ref aa, .ref ta, .int nA, .int nH, .int nP, .int nM, .ref ts, .ref t5])), (sh, .inr (1, [.ref r1, .ref r2, .ref r3, .ref r4, .int (nI rc), .int (nI bo), .int lv])), (r1, .inr (0, [.ref j1, .int (nI L1.length)])), (j1, .inl (cI, 30, .inl f1)), (r2, .inr (0, [.ref j2, .int (nI L2.length)])), (j2, .inl (cI, 30, .inl f2)), (r3, .inr (0, [.ref j3, .int (nI L3.length)])), (j3, .inl (cI, 30, .inl f3)), (r4, .inr (0, [.ref j4, .int (nI L4.length)])), (j4, .inl (cI, 30, .inl f4)), (r5, .inr (0, [.ref j5, .int (nI P.length)])), (j5, .inl (cI, 30, .inl f5)), (r6, .inr (0, [.ref j6, .int (nI M.length)])), (j6, .inl (cI, 30, .inl f6))] := hD1
  have hS := hS1
  clear hP1 hD1 hS1
  refine W.eq (g2 := F0 m 44 ls [.ref r1]) rfl ?_
  refine lv_astore (lv' := [(4, .ref r1), (3, .int (nI 1)), (1, .long (dg (dg (dg (dg (dg (dg (dg (dg (dg (dg (dg (dg 1427 ((nI rc))) ((nI L1.length))) ((nI L2.length))) ((nI L3.length))) ((nI L4.length))) ((nI P.length))) ((nI M.length))) ((nI bo))) (nA)) (nH)) (nP)) (nM))), (0, .ref gp)]) hx hb dX2_digest_44 hl (by decide) rfl (fun ls hl1 => ?_)
  clear hl
  have hl := hl1
  clear hl1
  refine lv_iconst (v := (nI 0)) hx hb dX2_digest_46 (by decide +kernel) ?_
  refine lv_istore (lv' := [(5, .int (nI 0)), (4, .ref r1), (3, .int (nI 1)), (1, .long (dg (dg (dg (dg (dg (dg (dg (dg (dg (dg (dg (dg 1427 ((nI rc))) ((nI L1.length))) ((nI L2.length))) ((nI L3.length))) ((nI L4.length))) ((nI P.length))) ((nI M.length))) ((nI bo))) (nA)) (nH)) (nP)) (nM))), (0, .ref gp)]) hx hb dX2_digest_47 hl (by decide) rfl (fun ls hl1 => ?_)
  clear hl
  have hl := hl1
  clear hl1
  obtain ⟨dd1, e_dd1⟩ : ∃ z : Int64, z = (dg (dg (dg (dg (dg (dg (dg (dg (dg (dg (dg (dg 1427 ((nI rc))) ((nI L1.length))) ((nI L2.length))) ((nI L3.length))) ((nI L4.length))) ((nI P.length))) ((nI M.length))) ((nI bo))) (nA)) (nH)) (nP)) (nM)) := ⟨_, rfl⟩
  have hl1 : lv_has ls 6 [(5, .int (nI 0)), (4, .ref r1), (3, .int (nI 1)), (1, .long dd1), (0, .ref gp)] := by rw [e_dd1]; exact hl
  clear hl
  have hl := hl1
  clear hl1
  refine g_heap (fun H_54 lc_55 eH9 eL9 => ?_)
  have hP1 : va_P G vwCl [(aa, .inl (cI, 30, .inl KA)), (ta, .inl (cI, 30, .inl TA)), (gp, .inr (2, [.ref sh, .ref r5, .ref r6, .ref aa, .ref ta, .int nA, .int nH, .int nP, .int nM, .ref ts, .ref t5])), (sh, .inr (1, [.ref r1, .ref r2, .ref r3, .ref r4, .int (nI rc), .int (nI bo), .int lv])), (r1, .inr (0, [.ref j1, .int (nI L1.length)])), (j1, .inl (cI, 30, .inl f1)), (r2, .inr (0, [.ref j2, .int (nI L2.length)])), (j2, .inl (cI, 30, .inl f2)), (r3, .inr (0, [.ref j3, .int (nI L3.length)])), (j3, .inl (cI, 30, .inl f3)), (r4, .inr (0, [.ref j4, .int (nI L4.length)])), (j4, .inl (cI, 30, .inl f4)), (r5, .inr (0, [.ref j5, .int (nI P.length)])), (j5, .inl (cI, 30, .inl f5)), (r6, .inr (0, [.ref j6, .int (nI M.length)])), (j6, .inl (cI, 30, .inl f6))] H_54 := by rw [eH9]; exact hP
  have hS1 : va_S A s.heap H_54 lc_55 := by rw [eH9, eL9]; exact hS
  clear hP hS eH9 eL9
  have hP := hP1
  have hS := hS1
  clear hP1 hS1
  have hl1 : lv_has ls 6 [(5, .int (nI 0)), (4, .ref r1), (3, .int (nI 1)), (1, .long (dgl dd1 (L1.take 0))), (0, .ref gp)] := by rw [lg_0]; exact hl
  clear hl
  have hl := hl1
  clear hl1
  have hl0 := lv_sub (l' := [(5, .int (nI 0)), (1, .long (dgl dd1 (L1.take 0))), (4, .ref r1), (3, .int (nI 1)), (0, .ref gp)]) hl [0, 3, 1, 2, 4] rfl
  clear hl
  have pk0 : 0 ≤ L1.length ∧ va_P G vwCl [(aa, .inl (cI, 30, .inl KA)), (ta, .inl (cI, 30, .inl TA)), (gp, .inr (2, [.ref sh, .ref r5, .ref r6, .ref aa, .ref ta, .int nA, .int nH, .int nP, .int nM, .ref ts, .ref t5])), (sh, .inr (1, [.ref r1, .ref r2, .ref r3, .ref r4, .int (nI rc), .int (nI bo), .int lv])), (r1, .inr (0, [.ref j1, .int (nI L1.length)])), (j1, .inl (cI, 30, .inl f1)), (r2, .inr (0, [.ref j2, .int (nI L2.length)])), (j2, .inl (cI, 30, .inl f2)), (r3, .inr (0, [.ref j3, .int (nI L3.length)])), (j3, .inl (cI, 30, .inl f3)), (r4, .inr (0, [.ref j4, .int (nI L4.length)])), (j4, .inl (cI, 30, .inl f4)), (r5, .inr (0, [.ref j5, .int (nI P.length)])), (j5, .inl (cI, 30, .inl f5)), (r6, .inr (0, [.ref j6, .int (nI M.length)])), (j6, .inl (cI, 30, .inl f6))] H_54 ∧ va_D A [(aa, .inl (cI, 30, .inl KA)), (ta, .inl (cI, 30, .inl TA)), (gp, .inr (2, [.ref sh, .ref r5, .ref r6, .ref aa, .ref ta, .int nA, .int nH, .int nP, .int nM, .ref ts, .ref t5])), (sh, .inr (1, [.ref r1, .ref r2, .ref r3, .ref r4, .int (nI rc), .int (nI bo), .int lv])), (r1, .inr (0, [.ref j1, .int (nI L1.length)])), (j1, .inl (cI, 30, .inl f1)), (r2, .inr (0, [.ref j2, .int (nI L2.length)])), (j2, .inl (cI, 30, .inl f2)), (r3, .inr (0, [.ref j3, .int (nI L3.length)])), (j3, .inl (cI, 30, .inl f3)), (r4, .inr (0, [.ref j4, .int (nI L4.length)])), (j4, .inl (cI, 30, .inl f4)), (r5, .inr (0, [.ref j5, .int (nI P.length)])), (j5, .inl (cI, 30, .inl f5)), (r6, .inr (0, [.ref j6, .int (nI M.length)])), (j6, .inl (cI, 30, .inl f6))] ∧ va_S A s.heap H_54 lc_55 ∧ lv_has ls 6 [(5, .int (nI 0)), (1, .long (dgl dd1 (L1.take 0))), (4, .ref r1), (3, .int (nI 1)), (0, .ref gp)] := ⟨(Nat.zero_le _), hP, hD, hS, hl0⟩
  clear hP hD hS hl0 
  obtain ⟨k1, er1⟩ : ∃ k1 : Nat, k1 = 0 := ⟨0, rfl⟩
  have pk1 : L1.length - k1 < (L1.length - 0) + 1 ∧ k1 ≤ L1.length ∧ va_P G vwCl [(aa, .inl (cI, 30, .inl KA)), (ta, .inl (cI, 30, .inl TA)), (gp, .inr (2, [.ref sh, .ref r5, .ref r6, .ref aa, .ref ta, .int nA, .int nH, .int nP, .int nM, .ref ts, .ref t5])), (sh, .inr (1, [.ref r1, .ref r2, .ref r3, .ref r4, .int (nI rc), .int (nI bo), .int lv])), (r1, .inr (0, [.ref j1, .int (nI L1.length)])), (j1, .inl (cI, 30, .inl f1)), (r2, .inr (0, [.ref j2, .int (nI L2.length)])), (j2, .inl (cI, 30, .inl f2)), (r3, .inr (0, [.ref j3, .int (nI L3.length)])), (j3, .inl (cI, 30, .inl f3)), (r4, .inr (0, [.ref j4, .int (nI L4.length)])), (j4, .inl (cI, 30, .inl f4)), (r5, .inr (0, [.ref j5, .int (nI P.length)])), (j5, .inl (cI, 30, .inl f5)), (r6, .inr (0, [.ref j6, .int (nI M.length)])), (j6, .inl (cI, 30, .inl f6))] H_54 ∧ va_D A [(aa, .inl (cI, 30, .inl KA)), (ta, .inl (cI, 30, .inl TA)), (gp, .inr (2, [.ref sh, .ref r5, .ref r6, .ref aa, .ref ta, .int nA, .int nH, .int nP, .int nM, .ref ts, .ref t5])), (sh, .inr (1, [.ref r1, .ref r2, .ref r3, .ref r4, .int (nI rc), .int (nI bo), .int lv])), (r1, .inr (0, [.ref j1, .int (nI L1.length)])), (j1, .inl (cI, 30, .inl f1)), (r2, .inr (0, [.ref j2, .int (nI L2.length)])), (j2, .inl (cI, 30, .inl f2)), (r3, .inr (0, [.ref j3, .int (nI L3.length)])), (j3, .inl (cI, 30, .inl f3)), (r4, .inr (0, [.ref j4, .int (nI L4.length)])), (j4, .inl (cI, 30, .inl f4)), (r5, .inr (0, [.ref j5, .int (nI P.length)])), (j5, .inl (cI, 30, .inl f5)), (r6, .inr (0, [.ref j6, .int (nI M.length)])), (j6, .inl (cI, 30, .inl f6))] ∧ va_S A s.heap H_54 lc_55 ∧ lv_has ls 6 [(5, .int (nI k1)), (1, .long (dgl dd1 (L1.take k1))), (4, .ref r1), (3, .int (nI 1)), (0, .ref gp)] := ⟨by omega, by rw [er1]; exact pk0⟩
  clear pk0 er1
  generalize (L1.length - 0) + 1 = nr1 at pk1
  induction nr1 generalizing k1 ls H_54 lc_55 with
  | zero => exact absurd pk1.1 (Nat.not_lt_zero _)
  | succ nr1 ihr1 =>
    obtain ⟨hnr1, hk91, hP, hD, hS, hl⟩ := pk1
    refine lv_aload hx hb dX2_digest_49 (lv_at hl 2 rfl) ?_
    refine lv_ifnull hx hb dX2_digest_51 ?_
    refine lv_iload hx hb dX2_digest_54 (lv_at hl 0 rfl) ?_
    refine lv_aload hx hb dX2_digest_56 (lv_at hl 2 rfl) ?_
    have hPc := hP.sub (ws' := [(r1, .inr (0, [.ref j1, .int (nI L1.length)])), (j1, .inl (cI, 30, .inl f1))]) [4, 5] rfl
    have hDc := hD.sub (ws' := [(r1, .inr (0, [.ref j1, .int (nI L1.length)])), (j1, .inl (cI, 30, .inl f1))]) [4, 5] (by decide) rfl
    have hKc := hK.sub (tys' := [(cI, .int)]) [0] rfl
    have hFc := va_free (wc := [(r1, .inr (0, [.ref j1, .int (nI L1.length)])), (j1, .inl (cI, 30, .inl f1))]) hD hS hA [4, 5] rfl
    refine va_calli (va_runV (As := []) (rest := [.int (nI k1)]) ⟨hx, hb, hml, hown, hts⟩ (c_X0_length l G cI r1 j1 f1 L1 hR1 (by omega)  H_54.size) (cwV 0 hts gX2_digest_X0_length rfl rfl rfl (by decide +kernel) ⟨Nat.le_of_ble_eq_true rfl, Nat.le_of_ble_eq_true rfl⟩) (g_preV (As := []) hPc hKc hDc 0 rfl rfl) rfl rfl hl.1 rfl (lv_room (Nat.le_of_ble_eq_true rfl)) dX2_digest_58 ⟨(Nat.le_of_ble_eq_true rfl), (Nat.le_of_ble_eq_true rfl)⟩) hS (fun q _ h => hFc q h) hFc (fun r_57 u_58 t H_56 locs ht hvm hw hB hz1 hk1 hS1 => ?_)
    subst hw
    obtain ⟨hP1, hD1⟩ := g_join (wc := [(r1, .inr (0, [.ref j1, .int (nI L1.length)])), (j1, .inl (cI, 30, .inl f1))]) (wr := [(aa, .inl (cI, 30, .inl KA)), (ta, .inl (cI, 30, .inl TA)), (gp, .inr (2, [.ref sh, .ref r5, .ref r6, .ref aa, .ref ta, .int nA, .int nH, .int nP, .int nM, .ref ts, .ref t5])), (sh, .inr (1, [.ref r1, .ref r2, .ref r3, .ref r4, .int (nI rc), .int (nI bo), .int lv])), (r2, .inr (0, [.ref j2, .int (nI L2.length)])), (j2, .inl (cI, 30, .inl f2)), (r3, .inr (0, [.ref j3, .int (nI L3.length)])), (j3, .inl (cI, 30, .inl f3)), (r4, .inr (0, [.ref j4, .int (nI L4.length)])), (j4, .inl (cI, 30, .inl f4)), (r5, .inr (0, [.ref j5, .int (nI P.length)])), (j5, .inl (cI, 30, .inl f5)), (r6, .inr (0, [.ref j6, .int (nI M.length)])), (j6, .inl (cI, 30, .inl f6))]) (w1 := [(r1, .inr (0, [.ref j1, .int (nI L1.length)])), (j1, .inl (cI, 30, .inl f1))]) hP hD [4, 5] [0, 1, 2, 3, 6, 7, 8, 9, 10, 11, 12, 13, 14, 15] rfl rfl (by decide) (by decide) ht hk1 hFc hB
    clear hB hk1 hz1 hvm ht hPc hDc hKc hFc
    clear hP hD hS
    have hP : va_P G vwCl [(aa, .inl (cI, 30, .inl KA)), (ta, .inl (cI, 30, .inl TA)), (gp, .inr (2, [.ref sh, .ref r5, .ref r6, .ref aa, .ref ta, .int nA, .int nH, .int nP, .int nM, .ref ts, .ref t5])), (sh, .inr (1, [.ref r1, .ref r2, .ref r3, .ref r4, .int (nI rc), .int (nI bo), .int lv])), (r2, .inr (0, [.ref j2, .int (nI L2.length)])), (j2, .inl (cI, 30, .inl f2)), (r3, .inr (0, [.ref j3, .int (nI L3.length)])), (j3, .inl (cI, 30, .inl f3)), (r4, .inr (0, [.ref j4, .int (nI L4.length)])), (j4, .inl (cI, 30, .inl f4)), (r5, .inr (0, [.ref j5, .int (nI P.length)])), (j5, .inl (cI, 30, .inl f5)), (r6, .inr (0, [.ref j6, .int (nI M.length)])), (j6, .inl (cI, 30, .inl f6)), (r1, .inr (0, [.ref j1, .int (nI L1.length)])), (j1, .inl (cI, 30, .inl f1))] H_56 := hP1
    have hD : va_D A [(aa, .inl (cI, 30, .inl KA)), (ta, .inl (cI, 30, .inl TA)), (gp, .inr (2, [.ref sh, .ref r5, .ref r6, .ref aa, .ref ta, .int nA, .int nH, .int nP, .int nM, .ref ts, .ref t5])), (sh, .inr (1, [.ref r1, .ref r2, .ref r3, .ref r4, .int (nI rc), .int (nI bo), .int lv])), (r2, .inr (0, [.ref j2, .int (nI L2.length)])), (j2, .inl (cI, 30, .inl f2)), (r3, .inr (0, [.ref j3, .int (nI L3.length)])), (j3, .inl (cI, 30, .inl f3)), (r4, .inr (0, [.ref j4, .int (nI L4.length)])), (j4, .inl (cI, 30, .inl f4)), (r5, .inr (0, [.ref j5, .int (nI P.length)])), (j5, .inl (cI, 30, .inl f5)), (r6, .inr (0, [.ref j6, .int (nI M.length)])), (j6, .inl (cI, 30, .inl f6)), (r1, .inr (0, [.ref j1, .int (nI L1.length)])), (j1, .inl (cI, 30, .inl f1))] := hD1
    have hS := hS1
    clear hP1 hD1 hS1
    refine g_icmp_ge (tgt := 85) hx hb dX2_digest_61 (by decide) (by omega) (by omega) (fun c_59 => ?_) (fun c_59 => ?_)
    · have ek1 : L1.take k1 = L1 := List.take_of_length_le (by omega)
      have hl1 : lv_has ls 6 [(5, .int (nI k1)), (1, .long (dgl dd1 L1)), (4, .ref r1), (3, .int (nI 1)), (0, .ref gp)] := by rw [ek1] at hl; exact hl
      clear hl
      have hl := hl1
      clear hl1
      refine lv_iinc (v := (nI 2)) (lv' := [(3, .int (nI 2)), (5, .int (nI k1)), (1, .long (dgl dd1 L1)), (4, .ref r1), (0, .ref gp)]) hx hb dX2_digest_85 hl (k := 3) rfl (by decide +kernel) (by decide) rfl (fun ls hl => ?_)
      refine lv_goto (tgt := 33) hx hb dX2_digest_88 (by decide) ?_
      refine lv_iload_n hx hb dX2_digest_33 rfl (lv_at hl 0 rfl) ?_
      refine lv_bipush (v := (nI 6)) hx hb dX2_digest_34 (by decide +kernel) ?_
      refine g_icmp_gt (tgt := 91) hx hb dX2_digest_36 (by decide) (by decide) (by decide) (fun c_60 => False.elim (by omega)) (fun c_60 => ?_)
      refine lv_aload_n hx hb dX2_digest_39 rfl (lv_at hl 4 rfl) ?_
      refine lv_iload_n hx hb dX2_digest_40 rfl (lv_at hl 0 rfl) ?_
      have hPc := hP.sub (ws' := [(gp, .inr (2, [.ref sh, .ref r5, .ref r6, .ref aa, .ref ta, .int nA, .int nH, .int nP, .int nM, .ref ts, .ref t5])), (sh, .inr (1, [.ref r1, .ref r2, .ref r3, .ref r4, .int (nI rc), .int (nI bo), .int lv])), (r1, .inr (0, [.ref j1, .int (nI L1.length)])), (j1, .inl (cI, 30, .inl f1)), (r2, .inr (0, [.ref j2, .int (nI L2.length)])), (j2, .inl (cI, 30, .inl f2)), (r3, .inr (0, [.ref j3, .int (nI L3.length)])), (j3, .inl (cI, 30, .inl f3)), (r4, .inr (0, [.ref j4, .int (nI L4.length)])), (j4, .inl (cI, 30, .inl f4)), (r5, .inr (0, [.ref j5, .int (nI P.length)])), (j5, .inl (cI, 30, .inl f5)), (r6, .inr (0, [.ref j6, .int (nI M.length)])), (j6, .inl (cI, 30, .inl f6))]) [2, 3, 14, 15, 4, 5, 6, 7, 8, 9, 10, 11, 12, 13] rfl
      have hDc := hD.sub (ws' := [(gp, .inr (2, [.ref sh, .ref r5, .ref r6, .ref aa, .ref ta, .int nA, .int nH, .int nP, .int nM, .ref ts, .ref t5])), (sh, .inr (1, [.ref r1, .ref r2, .ref r3, .ref r4, .int (nI rc), .int (nI bo), .int lv])), (r1, .inr (0, [.ref j1, .int (nI L1.length)])), (j1, .inl (cI, 30, .inl f1)), (r2, .inr (0, [.ref j2, .int (nI L2.length)])), (j2, .inl (cI, 30, .inl f2)), (r3, .inr (0, [.ref j3, .int (nI L3.length)])), (j3, .inl (cI, 30, .inl f3)), (r4, .inr (0, [.ref j4, .int (nI L4.length)])), (j4, .inl (cI, 30, .inl f4)), (r5, .inr (0, [.ref j5, .int (nI P.length)])), (j5, .inl (cI, 30, .inl f5)), (r6, .inr (0, [.ref j6, .int (nI M.length)])), (j6, .inl (cI, 30, .inl f6))]) [2, 3, 14, 15, 4, 5, 6, 7, 8, 9, 10, 11, 12, 13] (by decide) rfl
      have hKc := hK.sub (tys' := [(cI, .int)]) [0] rfl
      have hFc := va_free (wc := [(gp, .inr (2, [.ref sh, .ref r5, .ref r6, .ref aa, .ref ta, .int nA, .int nH, .int nP, .int nM, .ref ts, .ref t5])), (sh, .inr (1, [.ref r1, .ref r2, .ref r3, .ref r4, .int (nI rc), .int (nI bo), .int lv])), (r1, .inr (0, [.ref j1, .int (nI L1.length)])), (j1, .inl (cI, 30, .inl f1)), (r2, .inr (0, [.ref j2, .int (nI L2.length)])), (j2, .inl (cI, 30, .inl f2)), (r3, .inr (0, [.ref j3, .int (nI L3.length)])), (j3, .inl (cI, 30, .inl f3)), (r4, .inr (0, [.ref j4, .int (nI L4.length)])), (j4, .inl (cI, 30, .inl f4)), (r5, .inr (0, [.ref j5, .int (nI P.length)])), (j5, .inl (cI, 30, .inl f5)), (r6, .inr (0, [.ref j6, .int (nI M.length)])), (j6, .inl (cI, 30, .inl f6))]) hD hS hA [2, 3, 14, 15, 4, 5, 6, 7, 8, 9, 10, 11, 12, 13] rfl
      refine va_callq (va_runV (As := [.int (nI 2)]) (rest := []) ⟨hx, hb, hml, hown, hts⟩ (c_X2_rowNumbered_2 l G cI gp sh r5 r6 aa ta ts t5 nA nH nP nM r1 r2 r3 r4 j1 j2 j3 j4 f1 f2 f3 f4 L1 L2 L3 L4 rc bo lv hR1 hR2 hR3 hR4 j5 f5 P hR5 j6 f6 M hR6  H_56.size) (cwV 1 hts gX2_digest_X2_rowNumbered rfl rfl rfl (by decide +kernel) ⟨Nat.le_of_ble_eq_true rfl, Nat.le_of_ble_eq_true rfl⟩) (g_preV (As := [.int (nI 2)]) hPc hKc hDc 0 rfl rfl) rfl rfl hl.1 rfl (lv_room (Nat.le_of_ble_eq_true rfl)) dX2_digest_41 ⟨(Nat.le_of_ble_eq_true rfl), (Nat.le_of_ble_eq_true rfl)⟩) hS (fun q _ h => hFc q h) hFc (fun r_62 u_63 t H_61 locs ht hvm hw hB hz1 hk1 hS1 => ?_)
      subst hw
      obtain ⟨hP1, hD1⟩ := g_join (wc := [(gp, .inr (2, [.ref sh, .ref r5, .ref r6, .ref aa, .ref ta, .int nA, .int nH, .int nP, .int nM, .ref ts, .ref t5])), (sh, .inr (1, [.ref r1, .ref r2, .ref r3, .ref r4, .int (nI rc), .int (nI bo), .int lv])), (r1, .inr (0, [.ref j1, .int (nI L1.length)])), (j1, .inl (cI, 30, .inl f1)), (r2, .inr (0, [.ref j2, .int (nI L2.length)])), (j2, .inl (cI, 30, .inl f2)), (r3, .inr (0, [.ref j3, .int (nI L3.length)])), (j3, .inl (cI, 30, .inl f3)), (r4, .inr (0, [.ref j4, .int (nI L4.length)])), (j4, .inl (cI, 30, .inl f4)), (r5, .inr (0, [.ref j5, .int (nI P.length)])), (j5, .inl (cI, 30, .inl f5)), (r6, .inr (0, [.ref j6, .int (nI M.length)])), (j6, .inl (cI, 30, .inl f6))]) (wr := [(aa, .inl (cI, 30, .inl KA)), (ta, .inl (cI, 30, .inl TA))]) (w1 := [(gp, .inr (2, [.ref sh, .ref r5, .ref r6, .ref aa, .ref ta, .int nA, .int nH, .int nP, .int nM, .ref ts, .ref t5])), (sh, .inr (1, [.ref r1, .ref r2, .ref r3, .ref r4, .int (nI rc), .int (nI bo), .int lv])), (r1, .inr (0, [.ref j1, .int (nI L1.length)])), (j1, .inl (cI, 30, .inl f1)), (r2, .inr (0, [.ref j2, .int (nI L2.length)])), (j2, .inl (cI, 30, .inl f2)), (r3, .inr (0, [.ref j3, .int (nI L3.length)])), (j3, .inl (cI, 30, .inl f3)), (r4, .inr (0, [.ref j4, .int (nI L4.length)])), (j4, .inl (cI, 30, .inl f4)), (r5, .inr (0, [.ref j5, .int (nI P.length)])), (j5, .inl (cI, 30, .inl f5)), (r6, .inr (0, [.ref j6, .int (nI M.length)])), (j6, .inl (cI, 30, .inl f6))]) hP hD [2, 3, 14, 15, 4, 5, 6, 7, 8, 9, 10, 11, 12, 13] [0, 1] rfl rfl (by decide) (by decide) ht hk1 hFc hB
      clear hB hk1 hz1 hvm ht hPc hDc hKc hFc
      clear hP hD hS
      have hP : va_P G vwCl [(aa, .inl (cI, 30, .inl KA)), (ta, .inl (cI, 30, .inl TA)), (gp, .inr (2, [.ref sh, .ref r5, .ref r6, .ref aa, .ref ta, .int nA, .int nH, .int nP, .int nM, .ref ts, .ref t5])), (sh, .inr (1, [.ref r1, .ref r2, .ref r3, .ref r4, .int (nI rc), .int (nI bo), .int lv])), (r1, .inr (0, [.ref j1, .int (nI L1.length)])), (j1, .inl (cI, 30, .inl f1)), (r2, .inr (0, [.ref j2, .int (nI L2.length)])), (j2, .inl (cI, 30, .inl f2)), (r3, .inr (0, [.ref j3, .int (nI L3.length)])), (j3, .inl (cI, 30, .inl f3)), (r4, .inr (0, [.ref j4, .int (nI L4.length)])), (j4, .inl (cI, 30, .inl f4)), (r5, .inr (0, [.ref j5, .int (nI P.length)])), (j5, .inl (cI, 30, .inl f5)), (r6, .inr (0, [.ref j6, .int (nI M.length)])), (j6, .inl (cI, 30, .inl f6))] H_61 := hP1
      have hD : va_D A [(aa, .inl (cI, 30, .inl KA)), (ta, .inl (cI, 30, .inl TA)), (gp, .inr (2, [.ref sh, .ref r5, .ref r6, .ref aa, .ref ta, .int nA, .int nH, .int nP, .int nM, .ref ts, .ref t5])), (sh, .inr (1, [.ref r1, .ref r2, .ref r3, .ref r4, .int (nI rc), .int (nI bo), .int lv])), (r1, .inr (0, [.ref j1, .int (nI L1.length)])), (j1, .inl (cI, 30, .inl f1)), (r2, .inr (0, [.ref j2, .int (nI L2.length)])), (j2, .inl (cI, 30, .inl f2)), (r3, .inr (0, [.ref j3, .int (nI L3.length)])), (j3, .inl (cI, 30, .inl f3)), (r4, .inr (0, [.ref j4, .int (nI L4.length)])), (j4, .inl (cI, 30, .inl f4)), (r5, .inr (0, [.ref j5, .int (nI P.length)])), (j5, .inl (cI, 30, .inl f5)), (r6, .inr (0, [.ref j6, .int (nI M.length)])), (j6, .inl (cI, 30, .inl f6))] := hD1
      have hS := hS1
      clear hP1 hD1 hS1
      refine W.eq (g2 := F0 m 44 ls [.ref r2]) rfl ?_
      refine lv_astore (lv' := [(4, .ref r2), (3, .int (nI 2)), (5, .int (nI k1)), (1, .long (dgl dd1 L1)), (0, .ref gp)]) hx hb dX2_digest_44 hl (by decide) rfl (fun ls hl1 => ?_)
      clear hl
      have hl := hl1
      clear hl1
      refine lv_iconst (v := (nI 0)) hx hb dX2_digest_46 (by decide +kernel) ?_
      refine lv_istore (lv' := [(5, .int (nI 0)), (4, .ref r2), (3, .int (nI 2)), (1, .long (dgl dd1 L1)), (0, .ref gp)]) hx hb dX2_digest_47 hl (by decide) rfl (fun ls hl1 => ?_)
      clear hl
      have hl := hl1
      clear hl1
      obtain ⟨dd2, e_dd2⟩ : ∃ z : Int64, z = (dgl dd1 L1) := ⟨_, rfl⟩
      have hl1 : lv_has ls 6 [(5, .int (nI 0)), (4, .ref r2), (3, .int (nI 2)), (1, .long dd2), (0, .ref gp)] := by rw [e_dd2]; exact hl
      clear hl
      have hl := hl1
      clear hl1
      refine g_heap (fun H_64 lc_65 eH9 eL9 => ?_)
      have hP1 : va_P G vwCl [(aa, .inl (cI, 30, .inl KA)), (ta, .inl (cI, 30, .inl TA)), (gp, .inr (2, [.ref sh, .ref r5, .ref r6, .ref aa, .ref ta, .int nA, .int nH, .int nP, .int nM, .ref ts, .ref t5])), (sh, .inr (1, [.ref r1, .ref r2, .ref r3, .ref r4, .int (nI rc), .int (nI bo), .int lv])), (r1, .inr (0, [.ref j1, .int (nI L1.length)])), (j1, .inl (cI, 30, .inl f1)), (r2, .inr (0, [.ref j2, .int (nI L2.length)])), (j2, .inl (cI, 30, .inl f2)), (r3, .inr (0, [.ref j3, .int (nI L3.length)])), (j3, .inl (cI, 30, .inl f3)), (r4, .inr (0, [.ref j4, .int (nI L4.length)])), (j4, .inl (cI, 30, .inl f4)), (r5, .inr (0, [.ref j5, .int (nI P.length)])), (j5, .inl (cI, 30, .inl f5)), (r6, .inr (0, [.ref j6, .int (nI M.length)])), (j6, .inl (cI, 30, .inl f6))] H_64 := by rw [eH9]; exact hP
      have hS1 : va_S A s.heap H_64 lc_65 := by rw [eH9, eL9]; exact hS
      clear hP hS eH9 eL9
      have hP := hP1
      have hS := hS1
      clear hP1 hS1
      have hl1 : lv_has ls 6 [(5, .int (nI 0)), (4, .ref r2), (3, .int (nI 2)), (1, .long (dgl dd2 (L2.take 0))), (0, .ref gp)] := by rw [lg_0]; exact hl
      clear hl
      have hl := hl1
      clear hl1
      have hl0 := lv_sub (l' := [(5, .int (nI 0)), (1, .long (dgl dd2 (L2.take 0))), (4, .ref r2), (3, .int (nI 2)), (0, .ref gp)]) hl [0, 3, 1, 2, 4] rfl
      clear hl
      have pk0 : 0 ≤ L2.length ∧ va_P G vwCl [(aa, .inl (cI, 30, .inl KA)), (ta, .inl (cI, 30, .inl TA)), (gp, .inr (2, [.ref sh, .ref r5, .ref r6, .ref aa, .ref ta, .int nA, .int nH, .int nP, .int nM, .ref ts, .ref t5])), (sh, .inr (1, [.ref r1, .ref r2, .ref r3, .ref r4, .int (nI rc), .int (nI bo), .int lv])), (r1, .inr (0, [.ref j1, .int (nI L1.length)])), (j1, .inl (cI, 30, .inl f1)), (r2, .inr (0, [.ref j2, .int (nI L2.length)])), (j2, .inl (cI, 30, .inl f2)), (r3, .inr (0, [.ref j3, .int (nI L3.length)])), (j3, .inl (cI, 30, .inl f3)), (r4, .inr (0, [.ref j4, .int (nI L4.length)])), (j4, .inl (cI, 30, .inl f4)), (r5, .inr (0, [.ref j5, .int (nI P.length)])), (j5, .inl (cI, 30, .inl f5)), (r6, .inr (0, [.ref j6, .int (nI M.length)])), (j6, .inl (cI, 30, .inl f6))] H_64 ∧ va_D A [(aa, .inl (cI, 30, .inl KA)), (ta, .inl (cI, 30, .inl TA)), (gp, .inr (2, [.ref sh, .ref r5, .ref r6, .ref aa, .ref ta, .int nA, .int nH, .int nP, .int nM, .ref ts, .ref t5])), (sh, .inr (1, [.ref r1, .ref r2, .ref r3, .ref r4, .int (nI rc), .int (nI bo), .int lv])), (r1, .inr (0, [.ref j1, .int (nI L1.length)])), (j1, .inl (cI, 30, .inl f1)), (r2, .inr (0, [.ref j2, .int (nI L2.length)])), (j2, .inl (cI, 30, .inl f2)), (r3, .inr (0, [.ref j3, .int (nI L3.length)])), (j3, .inl (cI, 30, .inl f3)), (r4, .inr (0, [.ref j4, .int (nI L4.length)])), (j4, .inl (cI, 30, .inl f4)), (r5, .inr (0, [.ref j5, .int (nI P.length)])), (j5, .inl (cI, 30, .inl f5)), (r6, .inr (0, [.ref j6, .int (nI M.length)])), (j6, .inl (cI, 30, .inl f6))] ∧ va_S A s.heap H_64 lc_65 ∧ lv_has ls 6 [(5, .int (nI 0)), (1, .long (dgl dd2 (L2.take 0))), (4, .ref r2), (3, .int (nI 2)), (0, .ref gp)] := ⟨(Nat.zero_le _), hP, hD, hS, hl0⟩
      clear hP hD hS hl0 
      obtain ⟨k2, er2⟩ : ∃ k2 : Nat, k2 = 0 := ⟨0, rfl⟩
      have pk1 : L2.length - k2 < (L2.length - 0) + 1 ∧ k2 ≤ L2.length ∧ va_P G vwCl [(aa, .inl (cI, 30, .inl KA)), (ta, .inl (cI, 30, .inl TA)), (gp, .inr (2, [.ref sh, .ref r5, .ref r6, .ref aa, .ref ta, .int nA, .int nH, .int nP, .int nM, .ref ts, .ref t5])), (sh, .inr (1, [.ref r1, .ref r2, .ref r3, .ref r4, .int (nI rc), .int (nI bo), .int lv])), (r1, .inr (0, [.ref j1, .int (nI L1.length)])), (j1, .inl (cI, 30, .inl f1)), (r2, .inr (0, [.ref j2, .int (nI L2.length)])), (j2, .inl (cI, 30, .inl f2)), (r3, .inr (0, [.ref j3, .int (nI L3.length)])), (j3, .inl (cI, 30, .inl f3)), (r4, .inr (0, [.ref j4, .int (nI L4.length)])), (j4, .inl (cI, 30, .inl f4)), (r5, .inr (0, [.ref j5, .int (nI P.length)])), (j5, .inl (cI, 30, .inl f5)), (r6, .inr (0, [.ref j6, .int (nI M.length)])), (j6, .inl (cI, 30, .inl f6))] H_64 ∧ va_D A [(aa, .inl (cI, 30, .inl KA)), (ta, .inl (cI, 30, .inl TA)), (gp, .inr (2, [.ref sh, .ref r5, .ref r6, .ref aa, .ref ta, .int nA, .int nH, .int nP, .int nM, .ref ts, .ref t5])), (sh, .inr (1, [.ref r1, .ref r2, .ref r3, .ref r4, .int (nI rc), .int (nI bo), .int lv])), (r1, .inr (0, [.ref j1, .int (nI L1.length)])), (j1, .inl (cI, 30, .inl f1)), (r2, .inr (0, [.ref j2, .int (nI L2.length)])), (j2, .inl (cI, 30, .inl f2)), (r3, .inr (0, [.ref j3, .int (nI L3.length)])), (j3, .inl (cI, 30, .inl f3)), (r4, .inr (0, [.ref j4, .int (nI L4.length)])), (j4, .inl (cI, 30, .inl f4)), (r5, .inr (0, [.ref j5, .int (nI P.length)])), (j5, .inl (cI, 30, .inl f5)), (r6, .inr (0, [.ref j6, .int (nI M.length)])), (j6, .inl (cI, 30, .inl f6))] ∧ va_S A s.heap H_64 lc_65 ∧ lv_has ls 6 [(5, .int (nI k2)), (1, .long (dgl dd2 (L2.take k2))), (4, .ref r2), (3, .int (nI 2)), (0, .ref gp)] := ⟨by omega, by rw [er2]; exact pk0⟩
      clear pk0 er2
      generalize (L2.length - 0) + 1 = nr2 at pk1
      induction nr2 generalizing k2 ls H_64 lc_65 with
      | zero => exact absurd pk1.1 (Nat.not_lt_zero _)
      | succ nr2 ihr2 =>
        obtain ⟨hnr2, hk92, hP, hD, hS, hl⟩ := pk1
        refine lv_aload hx hb dX2_digest_49 (lv_at hl 2 rfl) ?_
        refine lv_ifnull hx hb dX2_digest_51 ?_
        refine lv_iload hx hb dX2_digest_54 (lv_at hl 0 rfl) ?_
        refine lv_aload hx hb dX2_digest_56 (lv_at hl 2 rfl) ?_
        have hPc := hP.sub (ws' := [(r2, .inr (0, [.ref j2, .int (nI L2.length)])), (j2, .inl (cI, 30, .inl f2))]) [6, 7] rfl
        have hDc := hD.sub (ws' := [(r2, .inr (0, [.ref j2, .int (nI L2.length)])), (j2, .inl (cI, 30, .inl f2))]) [6, 7] (by decide) rfl
        have hKc := hK.sub (tys' := [(cI, .int)]) [0] rfl
        have hFc := va_free (wc := [(r2, .inr (0, [.ref j2, .int (nI L2.length)])), (j2, .inl (cI, 30, .inl f2))]) hD hS hA [6, 7] rfl
        refine va_calli (va_runV (As := []) (rest := [.int (nI k2)]) ⟨hx, hb, hml, hown, hts⟩ (c_X0_length l G cI r2 j2 f2 L2 hR2 (by omega)  H_64.size) (cwV 0 hts gX2_digest_X0_length rfl rfl rfl (by decide +kernel) ⟨Nat.le_of_ble_eq_true rfl, Nat.le_of_ble_eq_true rfl⟩) (g_preV (As := []) hPc hKc hDc 0 rfl rfl) rfl rfl hl.1 rfl (lv_room (Nat.le_of_ble_eq_true rfl)) dX2_digest_58 ⟨(Nat.le_of_ble_eq_true rfl), (Nat.le_of_ble_eq_true rfl)⟩) hS (fun q _ h => hFc q h) hFc (fun r_67 u_68 t H_66 locs ht hvm hw hB hz1 hk1 hS1 => ?_)
        subst hw
        obtain ⟨hP1, hD1⟩ := g_join (wc := [(r2, .inr (0, [.ref j2, .int (nI L2.length)])), (j2, .inl (cI, 30, .inl f2))]) (wr := [(aa, .inl (cI, 30, .inl KA)), (ta, .inl (cI, 30, .inl TA)), (gp, .inr (2, [.ref sh, .ref r5, .ref r6, .ref aa, .ref ta, .int nA, .int nH, .int nP, .int nM, .ref ts, .ref t5])), (sh, .inr (1, [.ref r1, .ref r2, .ref r3, .ref r4, .int (nI rc), .int (nI bo), .int lv])), (r1, .inr (0, [.ref j1, .int (nI L1.length)])), (j1, .inl (cI, 30, .inl f1)), (r3, .inr (0, [.ref j3, .int (nI L3.length)])), (j3, .inl (cI, 30, .inl f3)), (r4, .inr (0, [.ref j4, .int (nI L4.length)])), (j4, .inl (cI, 30, .inl f4)), (r5, .inr (0, [.ref j5, .int (nI P.length)])), (j5, .inl (cI, 30, .inl f5)), (r6, .inr (0, [.ref j6, .int (nI M.length)])), (j6, .inl (cI, 30, .inl f6))]) (w1 := [(r2, .inr (0, [.ref j2, .int (nI L2.length)])), (j2, .inl (cI, 30, .inl f2))]) hP hD [6, 7] [0, 1, 2, 3, 4, 5, 8, 9, 10, 11, 12, 13, 14, 15] rfl rfl (by decide) (by decide) ht hk1 hFc hB
        clear hB hk1 hz1 hvm ht hPc hDc hKc hFc
        clear hP hD hS
        have hP : va_P G vwCl [(aa, .inl (cI, 30, .inl KA)), (ta, .inl (cI, 30, .inl TA)), (gp, .inr (2, [.ref sh, .ref r5, .ref r6, .ref aa, .ref ta, .int nA, .int nH, .int nP, .int nM, .ref ts, .ref t5])), (sh, .inr (1, [.ref r1, .ref r2, .ref r3, .ref r4, .int (nI rc), .int (nI bo), .int lv])), (r1, .inr (0, [.ref j1, .int (nI L1.length)])), (j1, .inl (cI, 30, .inl f1)), (r3, .inr (0, [.ref j3, .int (nI L3.length)])), (j3, .inl (cI, 30, .inl f3)), (r4, .inr (0, [.ref j4, .int (nI L4.length)])), (j4, .inl (cI, 30, .inl f4)), (r5, .inr (0, [.ref j5, .int (nI P.length)])), (j5, .inl (cI, 30, .inl f5)), (r6, .inr (0, [.ref j6, .int (nI M.length)])), (j6, .inl (cI, 30, .inl f6)), (r2, .inr (0, [.ref j2, .int (nI L2.length)])), (j2, .inl (cI, 30, .inl f2))] H_66 := hP1
        have hD : va_D A [(aa, .inl (cI, 30, .inl KA)), (ta, .inl (cI, 30, .inl TA)), (gp, .inr (2, [.ref sh, .ref r5, .ref r6, .ref aa, .ref ta, .int nA, .int nH, .int nP, .int nM, .ref ts, .ref t5])), (sh, .inr (1, [.ref r1, .ref r2, .ref r3, .ref r4, .int (nI rc), .int (nI bo), .int lv])), (r1, .inr (0, [.ref j1, .int (nI L1.length)])), (j1, .inl (cI, 30, .inl f1)), (r3, .inr (0, [.ref j3, .int (nI L3.length)])), (j3, .inl (cI, 30, .inl f3)), (r4, .inr (0, [.ref j4, .int (nI L4.length)])), (j4, .inl (cI, 30, .inl f4)), (r5, .inr (0, [.ref j5, .int (nI P.length)])), (j5, .inl (cI, 30, .inl f5)), (r6, .inr (0, [.ref j6, .int (nI M.length)])), (j6, .inl (cI, 30, .inl f6)), (r2, .inr (0, [.ref j2, .int (nI L2.length)])), (j2, .inl (cI, 30, .inl f2))] := hD1
        have hS := hS1
        clear hP1 hD1 hS1
        refine g_icmp_ge (tgt := 85) hx hb dX2_digest_61 (by decide) (by omega) (by omega) (fun c_69 => ?_) (fun c_69 => ?_)
        · have ek2 : L2.take k2 = L2 := List.take_of_length_le (by omega)
          have hl1 : lv_has ls 6 [(5, .int (nI k2)), (1, .long (dgl dd2 L2)), (4, .ref r2), (3, .int (nI 2)), (0, .ref gp)] := by rw [ek2] at hl; exact hl
          clear hl
          have hl := hl1
          clear hl1
          refine lv_iinc (v := (nI 3)) (lv' := [(3, .int (nI 3)), (5, .int (nI k2)), (1, .long (dgl dd2 L2)), (4, .ref r2), (0, .ref gp)]) hx hb dX2_digest_85 hl (k := 3) rfl (by decide +kernel) (by decide) rfl (fun ls hl => ?_)
          refine lv_goto (tgt := 33) hx hb dX2_digest_88 (by decide) ?_
          refine lv_iload_n hx hb dX2_digest_33 rfl (lv_at hl 0 rfl) ?_
          refine lv_bipush (v := (nI 6)) hx hb dX2_digest_34 (by decide +kernel) ?_
          refine g_icmp_gt (tgt := 91) hx hb dX2_digest_36 (by decide) (by decide) (by decide) (fun c_70 => False.elim (by omega)) (fun c_70 => ?_)
          refine lv_aload_n hx hb dX2_digest_39 rfl (lv_at hl 4 rfl) ?_
          refine lv_iload_n hx hb dX2_digest_40 rfl (lv_at hl 0 rfl) ?_
          have hPc := hP.sub (ws' := [(gp, .inr (2, [.ref sh, .ref r5, .ref r6, .ref aa, .ref ta, .int nA, .int nH, .int nP, .int nM, .ref ts, .ref t5])), (sh, .inr (1, [.ref r1, .ref r2, .ref r3, .ref r4, .int (nI rc), .int (nI bo), .int lv])), (r1, .inr (0, [.ref j1, .int (nI L1.length)])), (j1, .inl (cI, 30, .inl f1)), (r2, .inr (0, [.ref j2, .int (nI L2.length)])), (j2, .inl (cI, 30, .inl f2)), (r3, .inr (0, [.ref j3, .int (nI L3.length)])), (j3, .inl (cI, 30, .inl f3)), (r4, .inr (0, [.ref j4, .int (nI L4.length)])), (j4, .inl (cI, 30, .inl f4)), (r5, .inr (0, [.ref j5, .int (nI P.length)])), (j5, .inl (cI, 30, .inl f5)), (r6, .inr (0, [.ref j6, .int (nI M.length)])), (j6, .inl (cI, 30, .inl f6))]) [2, 3, 4, 5, 14, 15, 6, 7, 8, 9, 10, 11, 12, 13] rfl
          have hDc := hD.sub (ws' := [(gp, .inr (2, [.ref sh, .ref r5, .ref r6, .ref aa, .ref ta, .int nA, .int nH, .int nP, .int nM, .ref ts, .ref t5])), (sh, .inr (1, [.ref r1, .ref r2, .ref r3, .ref r4, .int (nI rc), .int (nI bo), .int lv])), (r1, .inr (0, [.ref j1, .int (nI L1.length)])), (j1, .inl (cI, 30, .inl f1)), (r2, .inr (0, [.ref j2, .int (nI L2.length)])), (j2, .inl (cI, 30, .inl f2)), (r3, .inr (0, [.ref j3, .int (nI L3.length)])), (j3, .inl (cI, 30, .inl f3)), (r4, .inr (0, [.ref j4, .int (nI L4.length)])), (j4, .inl (cI, 30, .inl f4)), (r5, .inr (0, [.ref j5, .int (nI P.length)])), (j5, .inl (cI, 30, .inl f5)), (r6, .inr (0, [.ref j6, .int (nI M.length)])), (j6, .inl (cI, 30, .inl f6))]) [2, 3, 4, 5, 14, 15, 6, 7, 8, 9, 10, 11, 12, 13] (by decide) rfl
          have hKc := hK.sub (tys' := [(cI, .int)]) [0] rfl
          have hFc := va_free (wc := [(gp, .inr (2, [.ref sh, .ref r5, .ref r6, .ref aa, .ref ta, .int nA, .int nH, .int nP, .int nM, .ref ts, .ref t5])), (sh, .inr (1, [.ref r1, .ref r2, .ref r3, .ref r4, .int (nI rc), .int (nI bo), .int lv])), (r1, .inr (0, [.ref j1, .int (nI L1.length)])), (j1, .inl (cI, 30, .inl f1)), (r2, .inr (0, [.ref j2, .int (nI L2.length)])), (j2, .inl (cI, 30, .inl f2)), (r3, .inr (0, [.ref j3, .int (nI L3.length)])), (j3, .inl (cI, 30, .inl f3)), (r4, .inr (0, [.ref j4, .int (nI L4.length)])), (j4, .inl (cI, 30, .inl f4)), (r5, .inr (0, [.ref j5, .int (nI P.length)])), (j5, .inl (cI, 30, .inl f5)), (r6, .inr (0, [.ref j6, .int (nI M.length)])), (j6, .inl (cI, 30, .inl f6))]) hD hS hA [2, 3, 4, 5, 14, 15, 6, 7, 8, 9, 10, 11, 12, 13] rfl
          refine va_callq (va_runV (As := [.int (nI 3)]) (rest := []) ⟨hx, hb, hml, hown, hts⟩ (c_X2_rowNumbered_3 l G cI gp sh r5 r6 aa ta ts t5 nA nH nP nM r1 r2 r3 r4 j1 j2 j3 j4 f1 f2 f3 f4 L1 L2 L3 L4 rc bo lv hR1 hR2 hR3 hR4 j5 f5 P hR5 j6 f6 M hR6  H_66.size) (cwV 1 hts gX2_digest_X2_rowNumbered rfl rfl rfl (by decide +kernel) ⟨Nat.le_of_ble_eq_true rfl, Nat.le_of_ble_eq_true rfl⟩) (g_preV (As := [.int (nI 3)]) hPc hKc hDc 0 rfl rfl) rfl rfl hl.1 rfl (lv_room (Nat.le_of_ble_eq_true rfl)) dX2_digest_41 ⟨(Nat.le_of_ble_eq_true rfl), (Nat.le_of_ble_eq_true rfl)⟩) hS (fun q _ h => hFc q h) hFc (fun r_72 u_73 t H_71 locs ht hvm hw hB hz1 hk1 hS1 => ?_)
          subst hw
          obtain ⟨hP1, hD1⟩ := g_join (wc := [(gp, .inr (2, [.ref sh, .ref r5, .ref r6, .ref aa, .ref ta, .int nA, .int nH, .int nP, .int nM, .ref ts, .ref t5])), (sh, .inr (1, [.ref r1, .ref r2, .ref r3, .ref r4, .int (nI rc), .int (nI bo), .int lv])), (r1, .inr (0, [.ref j1, .int (nI L1.length)])), (j1, .inl (cI, 30, .inl f1)), (r2, .inr (0, [.ref j2, .int (nI L2.length)])), (j2, .inl (cI, 30, .inl f2)), (r3, .inr (0, [.ref j3, .int (nI L3.length)])), (j3, .inl (cI, 30, .inl f3)), (r4, .inr (0, [.ref j4, .int (nI L4.length)])), (j4, .inl (cI, 30, .inl f4)), (r5, .inr (0, [.ref j5, .int (nI P.length)])), (j5, .inl (cI, 30, .inl f5)), (r6, .inr (0, [.ref j6, .int (nI M.length)])), (j6, .inl (cI, 30, .inl f6))]) (wr := [(aa, .inl (cI, 30, .inl KA)), (ta, .inl (cI, 30, .inl TA))]) (w1 := [(gp, .inr (2, [.ref sh, .ref r5, .ref r6, .ref aa, .ref ta, .int nA, .int nH, .int nP, .int nM, .ref ts, .ref t5])), (sh, .inr (1, [.ref r1, .ref r2, .ref r3, .ref r4, .int (nI rc), .int (nI bo), .int lv])), (r1, .inr (0, [.ref j1, .int (nI L1.length)])), (j1, .inl (cI, 30, .inl f1)), (r2, .inr (0, [.ref j2, .int (nI L2.length)])), (j2, .inl (cI, 30, .inl f2)), (r3, .inr (0, [.ref j3, .int (nI L3.length)])), (j3, .inl (cI, 30, .inl f3)), (r4, .inr (0, [.ref j4, .int (nI L4.length)])), (j4, .inl (cI, 30, .inl f4)), (r5, .inr (0, [.ref j5, .int (nI P.length)])), (j5, .inl (cI, 30, .inl f5)), (r6, .inr (0, [.ref j6, .int (nI M.length)])), (j6, .inl (cI, 30, .inl f6))]) hP hD [2, 3, 4, 5, 14, 15, 6, 7, 8, 9, 10, 11, 12, 13] [0, 1] rfl rfl (by decide) (by decide) ht hk1 hFc hB
          clear hB hk1 hz1 hvm ht hPc hDc hKc hFc
          clear hP hD hS
          have hP : va_P G vwCl [(aa, .inl (cI, 30, .inl KA)), (ta, .inl (cI, 30, .inl TA)), (gp, .inr (2, [.ref sh, .ref r5, .ref r6, .ref aa, .ref ta, .int nA, .int nH, .int nP, .int nM, .ref ts, .ref t5])), (sh, .inr (1, [.ref r1, .ref r2, .ref r3, .ref r4, .int (nI rc), .int (nI bo), .int lv])), (r1, .inr (0, [.ref j1, .int (nI L1.length)])), (j1, .inl (cI, 30, .inl f1)), (r2, .inr (0, [.ref j2, .int (nI L2.length)])), (j2, .inl (cI, 30, .inl f2)), (r3, .inr (0, [.ref j3, .int (nI L3.length)])), (j3, .inl (cI, 30, .inl f3)), (r4, .inr (0, [.ref j4, .int (nI L4.length)])), (j4, .inl (cI, 30, .inl f4)), (r5, .inr (0, [.ref j5, .int (nI P.length)])), (j5, .inl (cI, 30, .inl f5)), (r6, .inr (0, [.ref j6, .int (nI M.length)])), (j6, .inl (cI, 30, .inl f6))] H_71 := hP1
          have hD : va_D A [(aa, .inl (cI, 30, .inl KA)), (ta, .inl (cI, 30, .inl TA)), (gp, .inr (2, [.ref sh, .ref r5, .ref r6, .ref aa, .ref ta, .int nA, .int nH, .int nP, .int nM, .ref ts, .ref t5])), (sh, .inr (1, [.ref r1, .ref r2, .ref r3, .ref r4, .int (nI rc), .int (nI bo), .int lv])), (r1, .inr (0, [.ref j1, .int (nI L1.length)])), (j1, .inl (cI, 30, .inl f1)), (r2, .inr (0, [.ref j2, .int (nI L2.length)])), (j2, .inl (cI, 30, .inl f2)), (r3, .inr (0, [.ref j3, .int (nI L3.length)])), (j3, .inl (cI, 30, .inl f3)), (r4, .inr (0, [.ref j4, .int (nI L4.length)])), (j4, .inl (cI, 30, .inl f4)), (r5, .inr (0, [.ref j5, .int (nI P.length)])), (j5, .inl (cI, 30, .inl f5)), (r6, .inr (0, [.ref j6, .int (nI M.length)])), (j6, .inl (cI, 30, .inl f6))] := hD1
          have hS := hS1
          clear hP1 hD1 hS1
          refine W.eq (g2 := F0 m 44 ls [.ref r3]) rfl ?_
          refine lv_astore (lv' := [(4, .ref r3), (3, .int (nI 3)), (5, .int (nI k2)), (1, .long (dgl dd2 L2)), (0, .ref gp)]) hx hb dX2_digest_44 hl (by decide) rfl (fun ls hl1 => ?_)
          clear hl
          have hl := hl1
          clear hl1
          refine lv_iconst (v := (nI 0)) hx hb dX2_digest_46 (by decide +kernel) ?_
          refine lv_istore (lv' := [(5, .int (nI 0)), (4, .ref r3), (3, .int (nI 3)), (1, .long (dgl dd2 L2)), (0, .ref gp)]) hx hb dX2_digest_47 hl (by decide) rfl (fun ls hl1 => ?_)
          clear hl
          have hl := hl1
          clear hl1
          obtain ⟨dd3, e_dd3⟩ : ∃ z : Int64, z = (dgl dd2 L2) := ⟨_, rfl⟩
          have hl1 : lv_has ls 6 [(5, .int (nI 0)), (4, .ref r3), (3, .int (nI 3)), (1, .long dd3), (0, .ref gp)] := by rw [e_dd3]; exact hl
          clear hl
          have hl := hl1
          clear hl1
          refine g_heap (fun H_74 lc_75 eH9 eL9 => ?_)
          have hP1 : va_P G vwCl [(aa, .inl (cI, 30, .inl KA)), (ta, .inl (cI, 30, .inl TA)), (gp, .inr (2, [.ref sh, .ref r5, .ref r6, .ref aa, .ref ta, .int nA, .int nH, .int nP, .int nM, .ref ts, .ref t5])), (sh, .inr (1, [.ref r1, .ref r2, .ref r3, .ref r4, .int (nI rc), .int (nI bo), .int lv])), (r1, .inr (0, [.ref j1, .int (nI L1.length)])), (j1, .inl (cI, 30, .inl f1)), (r2, .inr (0, [.ref j2, .int (nI L2.length)])), (j2, .inl (cI, 30, .inl f2)), (r3, .inr (0, [.ref j3, .int (nI L3.length)])), (j3, .inl (cI, 30, .inl f3)), (r4, .inr (0, [.ref j4, .int (nI L4.length)])), (j4, .inl (cI, 30, .inl f4)), (r5, .inr (0, [.ref j5, .int (nI P.length)])), (j5, .inl (cI, 30, .inl f5)), (r6, .inr (0, [.ref j6, .int (nI M.length)])), (j6, .inl (cI, 30, .inl f6))] H_74 := by rw [eH9]; exact hP
          have hS1 : va_S A s.heap H_74 lc_75 := by rw [eH9, eL9]; exact hS
          clear hP hS eH9 eL9
          have hP := hP1
          have hS := hS1
          clear hP1 hS1
          have hl1 : lv_has ls 6 [(5, .int (nI 0)), (4, .ref r3), (3, .int (nI 3)), (1, .long (dgl dd3 (L3.take 0))), (0, .ref gp)] := by rw [lg_0]; exact hl
          clear hl
          have hl := hl1
          clear hl1
          have hl0 := lv_sub (l' := [(5, .int (nI 0)), (1, .long (dgl dd3 (L3.take 0))), (4, .ref r3), (3, .int (nI 3)), (0, .ref gp)]) hl [0, 3, 1, 2, 4] rfl
          clear hl
          have pk0 : 0 ≤ L3.length ∧ va_P G vwCl [(aa, .inl (cI, 30, .inl KA)), (ta, .inl (cI, 30, .inl TA)), (gp, .inr (2, [.ref sh, .ref r5, .ref r6, .ref aa, .ref ta, .int nA, .int nH, .int nP, .int nM, .ref ts, .ref t5])), (sh, .inr (1, [.ref r1, .ref r2, .ref r3, .ref r4, .int (nI rc), .int (nI bo), .int lv])), (r1, .inr (0, [.ref j1, .int (nI L1.length)])), (j1, .inl (cI, 30, .inl f1)), (r2, .inr (0, [.ref j2, .int (nI L2.length)])), (j2, .inl (cI, 30, .inl f2)), (r3, .inr (0, [.ref j3, .int (nI L3.length)])), (j3, .inl (cI, 30, .inl f3)), (r4, .inr (0, [.ref j4, .int (nI L4.length)])), (j4, .inl (cI, 30, .inl f4)), (r5, .inr (0, [.ref j5, .int (nI P.length)])), (j5, .inl (cI, 30, .inl f5)), (r6, .inr (0, [.ref j6, .int (nI M.length)])), (j6, .inl (cI, 30, .inl f6))] H_74 ∧ va_D A [(aa, .inl (cI, 30, .inl KA)), (ta, .inl (cI, 30, .inl TA)), (gp, .inr (2, [.ref sh, .ref r5, .ref r6, .ref aa, .ref ta, .int nA, .int nH, .int nP, .int nM, .ref ts, .ref t5])), (sh, .inr (1, [.ref r1, .ref r2, .ref r3, .ref r4, .int (nI rc), .int (nI bo), .int lv])), (r1, .inr (0, [.ref j1, .int (nI L1.length)])), (j1, .inl (cI, 30, .inl f1)), (r2, .inr (0, [.ref j2, .int (nI L2.length)])), (j2, .inl (cI, 30, .inl f2)), (r3, .inr (0, [.ref j3, .int (nI L3.length)])), (j3, .inl (cI, 30, .inl f3)), (r4, .inr (0, [.ref j4, .int (nI L4.length)])), (j4, .inl (cI, 30, .inl f4)), (r5, .inr (0, [.ref j5, .int (nI P.length)])), (j5, .inl (cI, 30, .inl f5)), (r6, .inr (0, [.ref j6, .int (nI M.length)])), (j6, .inl (cI, 30, .inl f6))] ∧ va_S A s.heap H_74 lc_75 ∧ lv_has ls 6 [(5, .int (nI 0)), (1, .long (dgl dd3 (L3.take 0))), (4, .ref r3), (3, .int (nI 3)), (0, .ref gp)] := ⟨(Nat.zero_le _), hP, hD, hS, hl0⟩
          clear hP hD hS hl0 
          obtain ⟨k3, er3⟩ : ∃ k3 : Nat, k3 = 0 := ⟨0, rfl⟩
          have pk1 : L3.length - k3 < (L3.length - 0) + 1 ∧ k3 ≤ L3.length ∧ va_P G vwCl [(aa, .inl (cI, 30, .inl KA)), (ta, .inl (cI, 30, .inl TA)), (gp, .inr (2, [.ref sh, .ref r5, .ref r6, .ref aa, .ref ta, .int nA, .int nH, .int nP, .int nM, .ref ts, .ref t5])), (sh, .inr (1, [.ref r1, .ref r2, .ref r3, .ref r4, .int (nI rc), .int (nI bo), .int lv])), (r1, .inr (0, [.ref j1, .int (nI L1.length)])), (j1, .inl (cI, 30, .inl f1)), (r2, .inr (0, [.ref j2, .int (nI L2.length)])), (j2, .inl (cI, 30, .inl f2)), (r3, .inr (0, [.ref j3, .int (nI L3.length)])), (j3, .inl (cI, 30, .inl f3)), (r4, .inr (0, [.ref j4, .int (nI L4.length)])), (j4, .inl (cI, 30, .inl f4)), (r5, .inr (0, [.ref j5, .int (nI P.length)])), (j5, .inl (cI, 30, .inl f5)), (r6, .inr (0, [.ref j6, .int (nI M.length)])), (j6, .inl (cI, 30, .inl f6))] H_74 ∧ va_D A [(aa, .inl (cI, 30, .inl KA)), (ta, .inl (cI, 30, .inl TA)), (gp, .inr (2, [.ref sh, .ref r5, .ref r6, .ref aa, .ref ta, .int nA, .int nH, .int nP, .int nM, .ref ts, .ref t5])), (sh, .inr (1, [.ref r1, .ref r2, .ref r3, .ref r4, .int (nI rc), .int (nI bo), .int lv])), (r1, .inr (0, [.ref j1, .int (nI L1.length)])), (j1, .inl (cI, 30, .inl f1)), (r2, .inr (0, [.ref j2, .int (nI L2.length)])), (j2, .inl (cI, 30, .inl f2)), (r3, .inr (0, [.ref j3, .int (nI L3.length)])), (j3, .inl (cI, 30, .inl f3)), (r4, .inr (0, [.ref j4, .int (nI L4.length)])), (j4, .inl (cI, 30, .inl f4)), (r5, .inr (0, [.ref j5, .int (nI P.length)])), (j5, .inl (cI, 30, .inl f5)), (r6, .inr (0, [.ref j6, .int (nI M.length)])), (j6, .inl (cI, 30, .inl f6))] ∧ va_S A s.heap H_74 lc_75 ∧ lv_has ls 6 [(5, .int (nI k3)), (1, .long (dgl dd3 (L3.take k3))), (4, .ref r3), (3, .int (nI 3)), (0, .ref gp)] := ⟨by omega, by rw [er3]; exact pk0⟩
          clear pk0 er3
          generalize (L3.length - 0) + 1 = nr3 at pk1
          induction nr3 generalizing k3 ls H_74 lc_75 with
          | zero => exact absurd pk1.1 (Nat.not_lt_zero _)
          | succ nr3 ihr3 =>
            obtain ⟨hnr3, hk93, hP, hD, hS, hl⟩ := pk1
            refine lv_aload hx hb dX2_digest_49 (lv_at hl 2 rfl) ?_
            refine lv_ifnull hx hb dX2_digest_51 ?_
            refine lv_iload hx hb dX2_digest_54 (lv_at hl 0 rfl) ?_
            refine lv_aload hx hb dX2_digest_56 (lv_at hl 2 rfl) ?_
            have hPc := hP.sub (ws' := [(r3, .inr (0, [.ref j3, .int (nI L3.length)])), (j3, .inl (cI, 30, .inl f3))]) [8, 9] rfl
            have hDc := hD.sub (ws' := [(r3, .inr (0, [.ref j3, .int (nI L3.length)])), (j3, .inl (cI, 30, .inl f3))]) [8, 9] (by decide) rfl
            have hKc := hK.sub (tys' := [(cI, .int)]) [0] rfl
            have hFc := va_free (wc := [(r3, .inr (0, [.ref j3, .int (nI L3.length)])), (j3, .inl (cI, 30, .inl f3))]) hD hS hA [8, 9] rfl
            refine va_calli (va_runV (As := []) (rest := [.int (nI k3)]) ⟨hx, hb, hml, hown, hts⟩ (c_X0_length l G cI r3 j3 f3 L3 hR3 (by omega)  H_74.size) (cwV 0 hts gX2_digest_X0_length rfl rfl rfl (by decide +kernel) ⟨Nat.le_of_ble_eq_true rfl, Nat.le_of_ble_eq_true rfl⟩) (g_preV (As := []) hPc hKc hDc 0 rfl rfl) rfl rfl hl.1 rfl (lv_room (Nat.le_of_ble_eq_true rfl)) dX2_digest_58 ⟨(Nat.le_of_ble_eq_true rfl), (Nat.le_of_ble_eq_true rfl)⟩) hS (fun q _ h => hFc q h) hFc (fun r_77 u_78 t H_76 locs ht hvm hw hB hz1 hk1 hS1 => ?_)
            subst hw
            obtain ⟨hP1, hD1⟩ := g_join (wc := [(r3, .inr (0, [.ref j3, .int (nI L3.length)])), (j3, .inl (cI, 30, .inl f3))]) (wr := [(aa, .inl (cI, 30, .inl KA)), (ta, .inl (cI, 30, .inl TA)), (gp, .inr (2, [.ref sh, .ref r5, .ref r6, .ref aa, .ref ta, .int nA, .int nH, .int nP, .int nM, .ref ts, .ref t5])), (sh, .inr (1, [.ref r1, .ref r2, .ref r3, .ref r4, .int (nI rc), .int (nI bo), .int lv])), (r1, .inr (0, [.ref j1, .int (nI L1.length)])), (j1, .inl (cI, 30, .inl f1)), (r2, .inr (0, [.ref j2, .int (nI L2.length)])), (j2, .inl (cI, 30, .inl f2)), (r4, .inr (0, [.ref j4, .int (nI L4.length)])), (j4, .inl (cI, 30, .inl f4)), (r5, .inr (0, [.ref j5, .int (nI P.length)])), (j5, .inl (cI, 30, .inl f5)), (r6, .inr (0, [.ref j6, .int (nI M.length)])), (j6, .inl (cI, 30, .inl f6))]) (w1 := [(r3, .inr (0, [.ref j3, .int (nI L3.length)])), (j3, .inl (cI, 30, .inl f3))]) hP hD [8, 9] [0, 1, 2, 3, 4, 5, 6, 7, 10, 11, 12, 13, 14, 15] rfl rfl (by decide) (by decide) ht hk1 hFc hB
            clear hB hk1 hz1 hvm ht hPc hDc hKc hFc
            clear hP hD hS
            have hP : va_P G vwCl [(aa, .inl (cI, 30, .inl KA)), (ta, .inl (cI, 30, .inl TA)), (gp, .inr (2, [.ref sh, .ref r5, .ref r6, .ref aa, .ref ta, .int nA, .int nH, .int nP, .int nM, .ref ts, .ref t5])), (sh, .inr (1, [.ref r1, .ref r2, .ref r3, .ref r4, .int (nI rc), .int (nI bo), .int lv])), (r1, .inr (0, [.ref j1, .int (nI L1.length)])), (j1, .inl (cI, 30, .inl f1)), (r2, .inr (0, [.ref j2, .int (nI L2.length)])), (j2, .inl (cI, 30, .inl f2)), (r4, .inr (0, [.ref j4, .int (nI L4.length)])), (j4, .inl (cI, 30, .inl f4)), (r5, .inr (0, [.ref j5, .int (nI P.length)])), (j5, .inl (cI, 30, .inl f5)), (r6, .inr (0, [.ref j6, .int (nI M.length)])), (j6, .inl (cI, 30, .inl f6)), (r3, .inr (0, [.ref j3, .int (nI L3.length)])), (j3, .inl (cI, 30, .inl f3))] H_76 := hP1
            have hD : va_D A [(aa, .inl (cI, 30, .inl KA)), (ta, .inl (cI, 30, .inl TA)), (gp, .inr (2, [.ref sh, .ref r5, .ref r6, .ref aa, .ref ta, .int nA, .int nH, .int nP, .int nM, .ref ts, .ref t5])), (sh, .inr (1, [.ref r1, .ref r2, .ref r3, .ref r4, .int (nI rc), .int (nI bo), .int lv])), (r1, .inr (0, [.ref j1, .int (nI L1.length)])), (j1, .inl (cI, 30, .inl f1)), (r2, .inr (0, [.ref j2, .int (nI L2.length)])), (j2, .inl (cI, 30, .inl f2)), (r4, .inr (0, [.ref j4, .int (nI L4.length)])), (j4, .inl (cI, 30, .inl f4)), (r5, .inr (0, [.ref j5, .int (nI P.length)])), (j5, .inl (cI, 30, .inl f5)), (r6, .inr (0, [.ref j6, .int (nI M.length)])), (j6, .inl (cI, 30, .inl f6)), (r3, .inr (0, [.ref j3, .int (nI L3.length)])), (j3, .inl (cI, 30, .inl f3))] := hD1
            have hS := hS1
            clear hP1 hD1 hS1
            refine g_icmp_ge (tgt := 85) hx hb dX2_digest_61 (by decide) (by omega) (by omega) (fun c_79 => ?_) (fun c_79 => ?_)
            · have ek3 : L3.take k3 = L3 := List.take_of_length_le (by omega)
              have hl1 : lv_has ls 6 [(5, .int (nI k3)), (1, .long (dgl dd3 L3)), (4, .ref r3), (3, .int (nI 3)), (0, .ref gp)] := by rw [ek3] at hl; exact hl
              clear hl
              have hl := hl1
              clear hl1
              refine lv_iinc (v := (nI 4)) (lv' := [(3, .int (nI 4)), (5, .int (nI k3)), (1, .long (dgl dd3 L3)), (4, .ref r3), (0, .ref gp)]) hx hb dX2_digest_85 hl (k := 3) rfl (by decide +kernel) (by decide) rfl (fun ls hl => ?_)
              refine lv_goto (tgt := 33) hx hb dX2_digest_88 (by decide) ?_
              refine lv_iload_n hx hb dX2_digest_33 rfl (lv_at hl 0 rfl) ?_
              refine lv_bipush (v := (nI 6)) hx hb dX2_digest_34 (by decide +kernel) ?_
              refine g_icmp_gt (tgt := 91) hx hb dX2_digest_36 (by decide) (by decide) (by decide) (fun c_80 => False.elim (by omega)) (fun c_80 => ?_)
              refine lv_aload_n hx hb dX2_digest_39 rfl (lv_at hl 4 rfl) ?_
              refine lv_iload_n hx hb dX2_digest_40 rfl (lv_at hl 0 rfl) ?_
              have hPc := hP.sub (ws' := [(gp, .inr (2, [.ref sh, .ref r5, .ref r6, .ref aa, .ref ta, .int nA, .int nH, .int nP, .int nM, .ref ts, .ref t5])), (sh, .inr (1, [.ref r1, .ref r2, .ref r3, .ref r4, .int (nI rc), .int (nI bo), .int lv])), (r1, .inr (0, [.ref j1, .int (nI L1.length)])), (j1, .inl (cI, 30, .inl f1)), (r2, .inr (0, [.ref j2, .int (nI L2.length)])), (j2, .inl (cI, 30, .inl f2)), (r3, .inr (0, [.ref j3, .int (nI L3.length)])), (j3, .inl (cI, 30, .inl f3)), (r4, .inr (0, [.ref j4, .int (nI L4.length)])), (j4, .inl (cI, 30, .inl f4)), (r5, .inr (0, [.ref j5, .int (nI P.length)])), (j5, .inl (cI, 30, .inl f5)), (r6, .inr (0, [.ref j6, .int (nI M.length)])), (j6, .inl (cI, 30, .inl f6))]) [2, 3, 4, 5, 6, 7, 14, 15, 8, 9, 10, 11, 12, 13] rfl
              have hDc := hD.sub (ws' := [(gp, .inr (2, [.ref sh, .ref r5, .ref r6, .ref aa, .ref ta, .int nA, .int nH, .int nP, .int nM, .ref ts, .ref t5])), (sh, .inr (1, [.ref r1, .ref r2, .ref r3, .ref r4, .int (nI rc), .int (nI bo), .int lv])), (r1, .inr (0, [.ref j1, .int (nI L1.length)])), (j1, .inl (cI, 30, .inl f1)), (r2, .inr (0, [.ref j2, .int (nI L2.length)])), (j2, .inl (cI, 30, .inl f2)), (r3, .inr (0, [.ref j3, .int (nI L3.length)])), (j3, .inl (cI, 30, .inl f3)), (r4, .inr (0, [.ref j4, .int (nI L4.length)])), (j4, .inl (cI, 30, .inl f4)), (r5, .inr (0, [.ref j5, .int (nI P.length)])), (j5, .inl (cI, 30, .inl f5)), (r6, .inr (0, [.ref j6, .int (nI M.length)])), (j6, .inl (cI, 30, .inl f6))]) [2, 3, 4, 5, 6, 7, 14, 15, 8, 9, 10, 11, 12, 13] (by decide) rfl
              have hKc := hK.sub (tys' := [(cI, .int)]) [0] rfl
              have hFc := va_free (wc := [(gp, .inr (2, [.ref sh, .ref r5, .ref r6, .ref aa, .ref ta, .int nA, .int nH, .int nP, .int nM, .ref ts, .ref t5])), (sh, .inr (1, [.ref r1, .ref r2, .ref r3, .ref r4, .int (nI rc), .int (nI bo), .int lv])), (r1, .inr (0, [.ref j1, .int (nI L1.length)])), (j1, .inl (cI, 30, .inl f1)), (r2, .inr (0, [.ref j2, .int (nI L2.length)])), (j2, .inl (cI, 30, .inl f2)), (r3, .inr (0, [.ref j3, .int (nI L3.length)])), (j3, .inl (cI, 30, .inl f3)), (r4, .inr (0, [.ref j4, .int (nI L4.length)])), (j4, .inl (cI, 30, .inl f4)), (r5, .inr (0, [.ref j5, .int (nI P.length)])), (j5, .inl (cI, 30, .inl f5)), (r6, .inr (0, [.ref j6, .int (nI M.length)])), (j6, .inl (cI, 30, .inl f6))]) hD hS hA [2, 3, 4, 5, 6, 7, 14, 15, 8, 9, 10, 11, 12, 13] rfl
              refine va_callq (va_runV (As := [.int (nI 4)]) (rest := []) ⟨hx, hb, hml, hown, hts⟩ (c_X2_rowNumbered_4 l G cI gp sh r5 r6 aa ta ts t5 nA nH nP nM r1 r2 r3 r4 j1 j2 j3 j4 f1 f2 f3 f4 L1 L2 L3 L4 rc bo lv hR1 hR2 hR3 hR4 j5 f5 P hR5 j6 f6 M hR6  H_76.size) (cwV 1 hts gX2_digest_X2_rowNumbered rfl rfl rfl (by decide +kernel) ⟨Nat.le_of_ble_eq_true rfl, Nat.le_of_ble_eq_true rfl⟩) (g_preV (As := [.int (nI 4)]) hPc hKc hDc 0 rfl rfl) rfl rfl hl.1 rfl (lv_room (Nat.le_of_ble_eq_true rfl)) dX2_digest_41 ⟨(Nat.le_of_ble_eq_true rfl), (Nat.le_of_ble_eq_true rfl)⟩) hS (fun q _ h => hFc q h) hFc (fun r_82 u_83 t H_81 locs ht hvm hw hB hz1 hk1 hS1 => ?_)
              subst hw
              obtain ⟨hP1, hD1⟩ := g_join (wc := [(gp, .inr (2, [.ref sh, .ref r5, .ref r6, .ref aa, .ref ta, .int nA, .int nH, .int nP, .int nM, .ref ts, .ref t5])), (sh, .inr (1, [.ref r1, .ref r2, .ref r3, .ref r4, .int (nI rc), .int (nI bo), .int lv])), (r1, .inr (0, [.ref j1, .int (nI L1.length)])), (j1, .inl (cI, 30, .inl f1)), (r2, .inr (0, [.ref j2, .int (nI L2.length)])), (j2, .inl (cI, 30, .inl f2)), (r3, .inr (0, [.ref j3, .int (nI L3.length)])), (j3, .inl (cI, 30, .inl f3)), (r4, .inr (0, [.ref j4, .int (nI L4.length)])), (j4, .inl (cI, 30, .inl f4)), (r5, .inr (0, [.ref j5, .int (nI P.length)])), (j5, .inl (cI, 30, .inl f5)), (r6, .inr (0, [.ref j6, .int (nI M.length)])), (j6, .inl (cI, 30, .inl f6))]) (wr := [(aa, .inl (cI, 30, .inl KA)), (ta, .inl (cI, 30, .inl TA))]) (w1 := [(gp, .inr (2, [.ref sh, .ref r5, .ref r6, .ref aa, .ref ta, .int nA, .int nH, .int nP, .int nM, .ref ts, .ref t5])), (sh, .inr (1, [.ref r1, .ref r2, .ref r3, .ref r4, .int (nI rc), .int (nI bo), .int lv])), (r1, .inr (0, [.ref j1, .int (nI L1.length)])), (j1, .inl (cI, 30, .inl f1)), (r2, .inr (0, [.ref j2, .int (nI L2.length)])), (j2, .inl (cI, 30, .inl f2)), (r3, .inr (0, [.ref j3, .int (nI L3.length)])), (j3, .inl (cI, 30, .inl f3)), (r4, .inr (0, [.ref j4, .int (nI L4.length)])), (j4, .inl (cI, 30, .inl f4)), (r5, .inr (0, [.ref j5, .int (nI P.length)])), (j5, .inl (cI, 30, .inl f5)), (r6, .inr (0, [.ref j6, .int (nI M.length)])), (j6, .inl (cI, 30, .inl f6))]) hP hD [2, 3, 4, 5, 6, 7, 14, 15, 8, 9, 10, 11, 12, 13] [0, 1] rfl rfl (by decide) (by decide) ht hk1 hFc hB
              clear hB hk1 hz1 hvm ht hPc hDc hKc hFc
              clear hP hD hS
              have hP : va_P G vwCl [(aa, .inl (cI, 30, .inl KA)), (ta, .inl (cI, 30, .inl TA)), (gp, .inr (2, [.ref sh, .ref r5, .ref r6, .ref aa, .ref ta, .int nA, .int nH, .int nP, .int nM, .ref ts, .ref t5])), (sh, .inr (1, [.ref r1, .ref r2, .ref r3, .ref r4, .int (nI rc), .int (nI bo), .int lv])), (r1, .inr (0, [.ref j1, .int (nI L1.length)])), (j1, .inl (cI, 30, .inl f1)), (r2, .inr (0, [.ref j2, .int (nI L2.length)])), (j2, .inl (cI, 30, .inl f2)), (r3, .inr (0, [.ref j3, .int (nI L3.length)])), (j3, .inl (cI, 30, .inl f3)), (r4, .inr (0, [.ref j4, .int (nI L4.length)])), (j4, .inl (cI, 30, .inl f4)), (r5, .inr (0, [.ref j5, .int (nI P.length)])), (j5, .inl (cI, 30, .inl f5)), (r6, .inr (0, [.ref j6, .int (nI M.length)])), (j6, .inl (cI, 30, .inl f6))] H_81 := hP1
              have hD : va_D A [(aa, .inl (cI, 30, .inl KA)), (ta, .inl (cI, 30, .inl TA)), (gp, .inr (2, [.ref sh, .ref r5, .ref r6, .ref aa, .ref ta, .int nA, .int nH, .int nP, .int nM, .ref ts, .ref t5])), (sh, .inr (1, [.ref r1, .ref r2, .ref r3, .ref r4, .int (nI rc), .int (nI bo), .int lv])), (r1, .inr (0, [.ref j1, .int (nI L1.length)])), (j1, .inl (cI, 30, .inl f1)), (r2, .inr (0, [.ref j2, .int (nI L2.length)])), (j2, .inl (cI, 30, .inl f2)), (r3, .inr (0, [.ref j3, .int (nI L3.length)])), (j3, .inl (cI, 30, .inl f3)), (r4, .inr (0, [.ref j4, .int (nI L4.length)])), (j4, .inl (cI, 30, .inl f4)), (r5, .inr (0, [.ref j5, .int (nI P.length)])), (j5, .inl (cI, 30, .inl f5)), (r6, .inr (0, [.ref j6, .int (nI M.length)])), (j6, .inl (cI, 30, .inl f6))] := hD1
              have hS := hS1
              clear hP1 hD1 hS1
              refine W.eq (g2 := F0 m 44 ls [.ref r4]) rfl ?_
              refine lv_astore (lv' := [(4, .ref r4), (3, .int (nI 4)), (5, .int (nI k3)), (1, .long (dgl dd3 L3)), (0, .ref gp)]) hx hb dX2_digest_44 hl (by decide) rfl (fun ls hl1 => ?_)
              clear hl
              have hl := hl1
              clear hl1
              refine lv_iconst (v := (nI 0)) hx hb dX2_digest_46 (by decide +kernel) ?_
              refine lv_istore (lv' := [(5, .int (nI 0)), (4, .ref r4), (3, .int (nI 4)), (1, .long (dgl dd3 L3)), (0, .ref gp)]) hx hb dX2_digest_47 hl (by decide) rfl (fun ls hl1 => ?_)
              clear hl
              have hl := hl1
              clear hl1
              obtain ⟨dd4, e_dd4⟩ : ∃ z : Int64, z = (dgl dd3 L3) := ⟨_, rfl⟩
              have hl1 : lv_has ls 6 [(5, .int (nI 0)), (4, .ref r4), (3, .int (nI 4)), (1, .long dd4), (0, .ref gp)] := by rw [e_dd4]; exact hl
              clear hl
              have hl := hl1
              clear hl1
              refine g_heap (fun H_84 lc_85 eH9 eL9 => ?_)
              have hP1 : va_P G vwCl [(aa, .inl (cI, 30, .inl KA)), (ta, .inl (cI, 30, .inl TA)), (gp, .inr (2, [.ref sh, .ref r5, .ref r6, .ref aa, .ref ta, .int nA, .int nH, .int nP, .int nM, .ref ts, .ref t5])), (sh, .inr (1, [.ref r1, .ref r2, .ref r3, .ref r4, .int (nI rc), .int (nI bo), .int lv])), (r1, .inr (0, [.ref j1, .int (nI L1.length)])), (j1, .inl (cI, 30, .inl f1)), (r2, .inr (0, [.ref j2, .int (nI L2.length)])), (j2, .inl (cI, 30, .inl f2)), (r3, .inr (0, [.ref j3, .int (nI L3.length)])), (j3, .inl (cI, 30, .inl f3)), (r4, .inr (0, [.ref j4, .int (nI L4.length)])), (j4, .inl (cI, 30, .inl f4)), (r5, .inr (0, [.ref j5, .int (nI P.length)])), (j5, .inl (cI, 30, .inl f5)), (r6, .inr (0, [.ref j6, .int (nI M.length)])), (j6, .inl (cI, 30, .inl f6))] H_84 := by rw [eH9]; exact hP
              have hS1 : va_S A s.heap H_84 lc_85 := by rw [eH9, eL9]; exact hS
              clear hP hS eH9 eL9
              have hP := hP1
              have hS := hS1
              clear hP1 hS1
              have hl1 : lv_has ls 6 [(5, .int (nI 0)), (4, .ref r4), (3, .int (nI 4)), (1, .long (dgl dd4 (L4.take 0))), (0, .ref gp)] := by rw [lg_0]; exact hl
              clear hl
              have hl := hl1
              clear hl1
              have hl0 := lv_sub (l' := [(5, .int (nI 0)), (1, .long (dgl dd4 (L4.take 0))), (4, .ref r4), (3, .int (nI 4)), (0, .ref gp)]) hl [0, 3, 1, 2, 4] rfl
              clear hl
              have pk0 : 0 ≤ L4.length ∧ va_P G vwCl [(aa, .inl (cI, 30, .inl KA)), (ta, .inl (cI, 30, .inl TA)), (gp, .inr (2, [.ref sh, .ref r5, .ref r6, .ref aa, .ref ta, .int nA, .int nH, .int nP, .int nM, .ref ts, .ref t5])), (sh, .inr (1, [.ref r1, .ref r2, .ref r3, .ref r4, .int (nI rc), .int (nI bo), .int lv])), (r1, .inr (0, [.ref j1, .int (nI L1.length)])), (j1, .inl (cI, 30, .inl f1)), (r2, .inr (0, [.ref j2, .int (nI L2.length)])), (j2, .inl (cI, 30, .inl f2)), (r3, .inr (0, [.ref j3, .int (nI L3.length)])), (j3, .inl (cI, 30, .inl f3)), (r4, .inr (0, [.ref j4, .int (nI L4.length)])), (j4, .inl (cI, 30, .inl f4)), (r5, .inr (0, [.ref j5, .int (nI P.length)])), (j5, .inl (cI, 30, .inl f5)), (r6, .inr (0, [.ref j6, .int (nI M.length)])), (j6, .inl (cI, 30, .inl f6))] H_84 ∧ va_D A [(aa, .inl (cI, 30, .inl KA)), (ta, .inl (cI, 30, .inl TA)), (gp, .inr (2, [.ref sh, .ref r5, .ref r6, .ref aa, .ref ta, .int nA, .int nH, .int nP, .int nM, .ref ts, .ref t5])), (sh, .inr (1, [.ref r1, .ref r2, .ref r3, .ref r4, .int (nI rc), .int (nI bo), .int lv])), (r1, .inr (0, [.ref j1, .int (nI L1.length)])), (j1, .inl (cI, 30, .inl f1)), (r2, .inr (0, [.ref j2, .int (nI L2.length)])), (j2, .inl (cI, 30, .inl f2)), (r3, .inr (0, [.ref j3, .int (nI L3.length)])), (j3, .inl (cI, 30, .inl f3)), (r4, .inr (0, [.ref j4, .int (nI L4.length)])), (j4, .inl (cI, 30, .inl f4)), (r5, .inr (0, [.ref j5, .int (nI P.length)])), (j5, .inl (cI, 30, .inl f5)), (r6, .inr (0, [.ref j6, .int (nI M.length)])), (j6, .inl (cI, 30, .inl f6))] ∧ va_S A s.heap H_84 lc_85 ∧ lv_has ls 6 [(5, .int (nI 0)), (1, .long (dgl dd4 (L4.take 0))), (4, .ref r4), (3, .int (nI 4)), (0, .ref gp)] := ⟨(Nat.zero_le _), hP, hD, hS, hl0⟩
              clear hP hD hS hl0 
              obtain ⟨k4, er4⟩ : ∃ k4 : Nat, k4 = 0 := ⟨0, rfl⟩
              have pk1 : L4.length - k4 < (L4.length - 0) + 1 ∧ k4 ≤ L4.length ∧ va_P G vwCl [(aa, .inl (cI, 30, .inl KA)), (ta, .inl (cI, 30, .inl TA)), (gp, .inr (2, [.ref sh, .ref r5, .ref r6, .ref aa, .ref ta, .int nA, .int nH, .int nP, .int nM, .ref ts, .ref t5])), (sh, .inr (1, [.ref r1, .ref r2, .ref r3, .ref r4, .int (nI rc), .int (nI bo), .int lv])), (r1, .inr (0, [.ref j1, .int (nI L1.length)])), (j1, .inl (cI, 30, .inl f1)), (r2, .inr (0, [.ref j2, .int (nI L2.length)])), (j2, .inl (cI, 30, .inl f2)), (r3, .inr (0, [.ref j3, .int (nI L3.length)])), (j3, .inl (cI, 30, .inl f3)), (r4, .inr (0, [.ref j4, .int (nI L4.length)])), (j4, .inl (cI, 30, .inl f4)), (r5, .inr (0, [.ref j5, .int (nI P.length)])), (j5, .inl (cI, 30, .inl f5)), (r6, .inr (0, [.ref j6, .int (nI M.length)])), (j6, .inl (cI, 30, .inl f6))] H_84 ∧ va_D A [(aa, .inl (cI, 30, .inl KA)), (ta, .inl (cI, 30, .inl TA)), (gp, .inr (2, [.ref sh, .ref r5, .ref r6, .ref aa, .ref ta, .int nA, .int nH, .int nP, .int nM, .ref ts, .ref t5])), (sh, .inr (1, [.ref r1, .ref r2, .ref r3, .ref r4, .int (nI rc), .int (nI bo), .int lv])), (r1, .inr (0, [.ref j1, .int (nI L1.length)])), (j1, .inl (cI, 30, .inl f1)), (r2, .inr (0, [.ref j2, .int (nI L2.length)])), (j2, .inl (cI, 30, .inl f2)), (r3, .inr (0, [.ref j3, .int (nI L3.length)])), (j3, .inl (cI, 30, .inl f3)), (r4, .inr (0, [.ref j4, .int (nI L4.length)])), (j4, .inl (cI, 30, .inl f4)), (r5, .inr (0, [.ref j5, .int (nI P.length)])), (j5, .inl (cI, 30, .inl f5)), (r6, .inr (0, [.ref j6, .int (nI M.length)])), (j6, .inl (cI, 30, .inl f6))] ∧ va_S A s.heap H_84 lc_85 ∧ lv_has ls 6 [(5, .int (nI k4)), (1, .long (dgl dd4 (L4.take k4))), (4, .ref r4), (3, .int (nI 4)), (0, .ref gp)] := ⟨by omega, by rw [er4]; exact pk0⟩
              clear pk0 er4
              generalize (L4.length - 0) + 1 = nr4 at pk1
              induction nr4 generalizing k4 ls H_84 lc_85 with
              | zero => exact absurd pk1.1 (Nat.not_lt_zero _)
              | succ nr4 ihr4 =>
                obtain ⟨hnr4, hk94, hP, hD, hS, hl⟩ := pk1
                refine lv_aload hx hb dX2_digest_49 (lv_at hl 2 rfl) ?_
                refine lv_ifnull hx hb dX2_digest_51 ?_
                refine lv_iload hx hb dX2_digest_54 (lv_at hl 0 rfl) ?_
                refine lv_aload hx hb dX2_digest_56 (lv_at hl 2 rfl) ?_
                have hPc := hP.sub (ws' := [(r4, .inr (0, [.ref j4, .int (nI L4.length)])), (j4, .inl (cI, 30, .inl f4))]) [10, 11] rfl
                have hDc := hD.sub (ws' := [(r4, .inr (0, [.ref j4, .int (nI L4.length)])), (j4, .inl (cI, 30, .inl f4))]) [10, 11] (by decide) rfl
                have hKc := hK.sub (tys' := [(cI, .int)]) [0] rfl
                have hFc := va_free (wc := [(r4, .inr (0, [.ref j4, .int (nI L4.length)])), (j4, .inl (cI, 30, .inl f4))]) hD hS hA [10, 11] rfl
                refine va_calli (va_runV (As := []) (rest := [.int (nI k4)]) ⟨hx, hb, hml, hown, hts⟩ (c_X0_length l G cI r4 j4 f4 L4 hR4 (by omega)  H_84.size) (cwV 0 hts gX2_digest_X0_length rfl rfl rfl (by decide +kernel) ⟨Nat.le_of_ble_eq_true rfl, Nat.le_of_ble_eq_true rfl⟩) (g_preV (As := []) hPc hKc hDc 0 rfl rfl) rfl rfl hl.1 rfl (lv_room (Nat.le_of_ble_eq_true rfl)) dX2_digest_58 ⟨(Nat.le_of_ble_eq_true rfl), (Nat.le_of_ble_eq_true rfl)⟩) hS (fun q _ h => hFc q h) hFc (fun r_87 u_88 t H_86 locs ht hvm hw hB hz1 hk1 hS1 => ?_)
                subst hw
                obtain ⟨hP1, hD1⟩ := g_join (wc := [(r4, .inr (0, [.ref j4, .int (nI L4.length)])), (j4, .inl (cI, 30, .inl f4))]) (wr := [(aa, .inl (cI, 30, .inl KA)), (ta, .inl (cI, 30, .inl TA)), (gp, .inr (2, [.ref sh, .ref r5, .ref r6, .ref aa, .ref ta, .int nA, .int nH, .int nP, .int nM, .ref ts, .ref t5])), (sh, .inr (1, [.ref r1, .ref r2, .ref r3, .ref r4, .int (nI rc), .int (nI bo), .int lv])), (r1, .inr (0, [.ref j1, .int (nI L1.length)])), (j1, .inl (cI, 30, .inl f1)), (r2, .inr (0, [.ref j2, .int (nI L2.length)])), (j2, .inl (cI, 30, .inl f2)), (r3, .inr (0, [.ref j3, .int (nI L3.length)])), (j3, .inl (cI, 30, .inl f3)), (r5, .inr (0, [.ref j5, .int (nI P.length)])), (j5, .inl (cI, 30, .inl f5)), (r6, .inr (0, [.ref j6, .int (nI M.length)])), (j6, .inl (cI, 30, .inl f6))]) (w1 := [(r4, .inr (0, [.ref j4, .int (nI L4.length)])), (j4, .inl (cI, 30, .inl f4))]) hP hD [10, 11] [0, 1, 2, 3, 4, 5, 6, 7, 8, 9, 12, 13, 14, 15] rfl rfl (by decide) (by decide) ht hk1 hFc hB
                clear hB hk1 hz1 hvm ht hPc hDc hKc hFc
                clear hP hD hS
                have hP : va_P G vwCl [(aa, .inl (cI, 30, .inl KA)), (ta, .inl (cI, 30, .inl TA)), (gp, .inr (2, [.ref sh, .ref r5, .ref r6, .ref aa, .ref ta, .int nA, .int nH, .int nP, .int nM, .ref ts, .ref t5])), (sh, .inr (1, [.ref r1, .ref r2, .ref r3, .ref r4, .int (nI rc), .int (nI bo), .int lv])), (r1, .inr (0, [.ref j1, .int (nI L1.length)])), (j1, .inl (cI, 30, .inl f1)), (r2, .inr (0, [.ref j2, .int (nI L2.length)])), (j2, .inl (cI, 30, .inl f2)), (r3, .inr (0, [.ref j3, .int (nI L3.length)])), (j3, .inl (cI, 30, .inl f3)), (r5, .inr (0, [.ref j5, .int (nI P.length)])), (j5, .inl (cI, 30, .inl f5)), (r6, .inr (0, [.ref j6, .int (nI M.length)])), (j6, .inl (cI, 30, .inl f6)), (r4, .inr (0, [.ref j4, .int (nI L4.length)])), (j4, .inl (cI, 30, .inl f4))] H_86 := hP1
                have hD : va_D A [(aa, .inl (cI, 30, .inl KA)), (ta, .inl (cI, 30, .inl TA)), (gp, .inr (2, [.ref sh, .ref r5, .ref r6, .ref aa, .ref ta, .int nA, .int nH, .int nP, .int nM, .ref ts, .ref t5])), (sh, .inr (1, [.ref r1, .ref r2, .ref r3, .ref r4, .int (nI rc), .int (nI bo), .int lv])), (r1, .inr (0, [.ref j1, .int (nI L1.length)])), (j1, .inl (cI, 30, .inl f1)), (r2, .inr (0, [.ref j2, .int (nI L2.length)])), (j2, .inl (cI, 30, .inl f2)), (r3, .inr (0, [.ref j3, .int (nI L3.length)])), (j3, .inl (cI, 30, .inl f3)), (r5, .inr (0, [.ref j5, .int (nI P.length)])), (j5, .inl (cI, 30, .inl f5)), (r6, .inr (0, [.ref j6, .int (nI M.length)])), (j6, .inl (cI, 30, .inl f6)), (r4, .inr (0, [.ref j4, .int (nI L4.length)])), (j4, .inl (cI, 30, .inl f4))] := hD1
                have hS := hS1
                clear hP1 hD1 hS1
                refine g_icmp_ge (tgt := 85) hx hb dX2_digest_61 (by decide) (by omega) (by omega) (fun c_89 => ?_) (fun c_89 => ?_)
                · have ek4 : L4.take k4 = L4 := List.take_of_length_le (by omega)
                  have hl1 : lv_has ls 6 [(5, .int (nI k4)), (1, .long (dgl dd4 L4)), (4, .ref r4), (3, .int (nI 4)), (0, .ref gp)] := by rw [ek4] at hl; exact hl
                  clear hl
                  have hl := hl1
                  clear hl1
                  refine lv_iinc (v := (nI 5)) (lv' := [(3, .int (nI 5)), (5, .int (nI k4)), (1, .long (dgl dd4 L4)), (4, .ref r4), (0, .ref gp)]) hx hb dX2_digest_85 hl (k := 3) rfl (by decide +kernel) (by decide) rfl (fun ls hl => ?_)
                  refine lv_goto (tgt := 33) hx hb dX2_digest_88 (by decide) ?_
                  refine lv_iload_n hx hb dX2_digest_33 rfl (lv_at hl 0 rfl) ?_
                  refine lv_bipush (v := (nI 6)) hx hb dX2_digest_34 (by decide +kernel) ?_
                  refine g_icmp_gt (tgt := 91) hx hb dX2_digest_36 (by decide) (by decide) (by decide) (fun c_90 => False.elim (by omega)) (fun c_90 => ?_)
                  refine lv_aload_n hx hb dX2_digest_39 rfl (lv_at hl 4 rfl) ?_
                  refine lv_iload_n hx hb dX2_digest_40 rfl (lv_at hl 0 rfl) ?_
                  have hPc := hP.sub (ws' := [(gp, .inr (2, [.ref sh, .ref r5, .ref r6, .ref aa, .ref ta, .int nA, .int nH, .int nP, .int nM, .ref ts, .ref t5])), (sh, .inr (1, [.ref r1, .ref r2, .ref r3, .ref r4, .int (nI rc), .int (nI bo), .int lv])), (r1, .inr (0, [.ref j1, .int (nI L1.length)])), (j1, .inl (cI, 30, .inl f1)), (r2, .inr (0, [.ref j2, .int (nI L2.length)])), (j2, .inl (cI, 30, .inl f2)), (r3, .inr (0, [.ref j3, .int (nI L3.length)])), (j3, .inl (cI, 30, .inl f3)), (r4, .inr (0, [.ref j4, .int (nI L4.length)])), (j4, .inl (cI, 30, .inl f4)), (r5, .inr (0, [.ref j5, .int (nI P.length)])), (j5, .inl (cI, 30, .inl f5)), (r6, .inr (0, [.ref j6, .int (nI M.length)])), (j6, .inl (cI, 30, .inl f6))]) [2, 3, 4, 5, 6, 7, 8, 9, 14, 15, 10, 11, 12, 13] rfl
                  have hDc := hD.sub (ws' := [(gp, .inr (2, [.ref sh, .ref r5, .ref r6, .ref aa, .ref ta, .int nA, .int nH, .int nP, .int nM, .ref ts, .ref t5])), (sh, .inr (1, [.ref r1, .ref r2, .ref r3, .ref r4, .int (nI rc), .int (nI bo), .int lv])), (r1, .inr (0, [.ref j1, .int (nI L1.length)])), (j1, .inl (cI, 30, .inl f1)), (r2, .inr (0, [.ref j2, .int (nI L2.length)])), (j2, .inl (cI, 30, .inl f2)), (r3, .inr (0, [.ref j3, .int (nI L3.length)])), (j3, .inl (cI, 30, .inl f3)), (r4, .inr (0, [.ref j4, .int (nI L4.length)])), (j4, .inl (cI, 30, .inl f4)), (r5, .inr (0, [.ref j5, .int (nI P.length)])), (j5, .inl (cI, 30, .inl f5)), (r6, .inr (0, [.ref j6, .int (nI M.length)])), (j6, .inl (cI, 30, .inl f6))]) [2, 3, 4, 5, 6, 7, 8, 9, 14, 15, 10, 11, 12, 13] (by decide) rfl
                  have hKc := hK.sub (tys' := [(cI, .int)]) [0] rfl
                  have hFc := va_free (wc := [(gp, .inr (2, [.ref sh, .ref r5, .ref r6, .ref aa, .ref ta, .int nA, .int nH, .int nP, .int nM, .ref ts, .ref t5])), (sh, .inr (1, [.ref r1, .ref r2, .ref r3, .ref r4, .int (nI rc), .int (nI bo), .int lv])), (r1, .inr (0, [.ref j1, .int (nI L1.length)])), (j1, .inl (cI, 30, .inl f1)), (r2, .inr (0, [.ref j2, .int (nI L2.length)])), (j2, .inl (cI, 30, .inl f2)), (r3, .inr (0, [.ref j3, .int (nI L3.length)])), (j3, .inl (cI, 30, .inl f3)), (r4, .inr (0, [.ref j4, .int (nI L4.length)])), (j4, .inl (cI, 30, .inl f4)), (r5, .inr (0, [.ref j5, .int (nI P.length)])), (j5, .inl (cI, 30, .inl f5)), (r6, .inr (0, [.ref j6, .int (nI M.length)])), (j6, .inl (cI, 30, .inl f6))]) hD hS hA [2, 3, 4, 5, 6, 7, 8, 9, 14, 15, 10, 11, 12, 13] rfl
                  refine va_callq (va_runV (As := [.int (nI 5)]) (rest := []) ⟨hx, hb, hml, hown, hts⟩ (c_X2_rowNumbered_5 l G cI gp sh r5 r6 aa ta ts t5 nA nH nP nM r1 r2 r3 r4 j1 j2 j3 j4 f1 f2 f3 f4 L1 L2 L3 L4 rc bo lv hR1 hR2 hR3 hR4 j5 f5 P hR5 j6 f6 M hR6  H_86.size) (cwV 1 hts gX2_digest_X2_rowNumbered rfl rfl rfl (by decide +kernel) ⟨Nat.le_of_ble_eq_true rfl, Nat.le_of_ble_eq_true rfl⟩) (g_preV (As := [.int (nI 5)]) hPc hKc hDc 0 rfl rfl) rfl rfl hl.1 rfl (lv_room (Nat.le_of_ble_eq_true rfl)) dX2_digest_41 ⟨(Nat.le_of_ble_eq_true rfl), (Nat.le_of_ble_eq_true rfl)⟩) hS (fun q _ h => hFc q h) hFc (fun r_92 u_93 t H_91 locs ht hvm hw hB hz1 hk1 hS1 => ?_)
                  subst hw
                  obtain ⟨hP1, hD1⟩ := g_join (wc := [(gp, .inr (2, [.ref sh, .ref r5, .ref r6, .ref aa, .ref ta, .int nA, .int nH, .int nP, .int nM, .ref ts, .ref t5])), (sh, .inr (1, [.ref r1, .ref r2, .ref r3, .ref r4, .int (nI rc), .int (nI bo), .int lv])), (r1, .inr (0, [.ref j1, .int (nI L1.length)])), (j1, .inl (cI, 30, .inl f1)), (r2, .inr (0, [.ref j2, .int (nI L2.length)])), (j2, .inl (cI, 30, .inl f2)), (r3, .inr (0, [.ref j3, .int (nI L3.length)])), (j3, .inl (cI, 30, .inl f3)), (r4, .inr (0, [.ref j4, .int (nI L4.length)])), (j4, .inl (cI, 30, .inl f4)), (r5, .inr (0, [.ref j5, .int (nI P.length)])), (j5, .inl (cI, 30, .inl f5)), (r6, .inr (0, [.ref j6, .int (nI M.length)])), (j6, .inl (cI, 30, .inl f6))]) (wr := [(aa, .inl (cI, 30, .inl KA)), (ta, .inl (cI, 30, .inl TA))]) (w1 := [(gp, .inr (2, [.ref sh, .ref r5, .ref r6, .ref aa, .ref ta, .int nA, .int nH, .int nP, .int nM, .ref ts, .ref t5])), (sh, .inr (1, [.ref r1, .ref r2, .ref r3, .ref r4, .int (nI rc), .int (nI bo), .int lv])), (r1, .inr (0, [.ref j1, .int (nI L1.length)])), (j1, .inl (cI, 30, .inl f1)), (r2, .inr (0, [.ref j2, .int (nI L2.length)])), (j2, .inl (cI, 30, .inl f2)), (r3, .inr (0, [.ref j3, .int (nI L3.length)])), (j3, .inl (cI, 30, .inl f3)), (r4, .inr (0, [.ref j4, .int (nI L4.length)])), (j4, .inl (cI, 30, .inl f4)), (r5, .inr (0, [.ref j5, .int (nI P.length)])), (j5, .inl (cI, 30, .inl f5)), (r6, .inr (0, [.ref j6, .int (nI M.length)])), (j6, .inl (cI, 30, .inl f6))]) hP hD [2, 3, 4, 5, 6, 7, 8, 9, 14, 15, 10, 11, 12, 13] [0, 1] rfl rfl (by decide) (by decide) ht hk1 hFc hB
                  clear hB hk1 hz1 hvm ht hPc hDc hKc hFc
                  clear hP hD hS
                  have hP : va_P G vwCl [(aa, .inl (cI, 30, .inl KA)), (ta, .inl (cI, 30, .inl TA)), (gp, .inr (2, [.ref sh, .ref r5, .ref r6, .ref aa, .ref ta, .int nA, .int nH, .int nP, .int nM, .ref ts, .ref t5])), (sh, .inr (1, [.ref r1, .ref r2, .ref r3, .ref r4, .int (nI rc), .int (nI bo), .int lv])), (r1, .inr (0, [.ref j1, .int (nI L1.length)])), (j1, .inl (cI, 30, .inl f1)), (r2, .inr (0, [.ref j2, .int (nI L2.length)])), (j2, .inl (cI, 30, .inl f2)), (r3, .inr (0, [.ref j3, .int (nI L3.length)])), (j3, .inl (cI, 30, .inl f3)), (r4, .inr (0, [.ref j4, .int (nI L4.length)])), (j4, .inl (cI, 30, .inl f4)), (r5, .inr (0, [.ref j5, .int (nI P.length)])), (j5, .inl (cI, 30, .inl f5)), (r6, .inr (0, [.ref j6, .int (nI M.length)])), (j6, .inl (cI, 30, .inl f6))] H_91 := hP1
                  have hD : va_D A [(aa, .inl (cI, 30, .inl KA)), (ta, .inl (cI, 30, .inl TA)), (gp, .inr (2, [.ref sh, .ref r5, .ref r6, .ref aa, .ref ta, .int nA, .int nH, .int nP, .int nM, .ref ts, .ref t5])), (sh, .inr (1, [.ref r1, .ref r2, .ref r3, .ref r4, .int (nI rc), .int (nI bo), .int lv])), (r1, .inr (0, [.ref j1, .int (nI L1.length)])), (j1, .inl (cI, 30, .inl f1)), (r2, .inr (0, [.ref j2, .int (nI L2.length)])), (j2, .inl (cI, 30, .inl f2)), (r3, .inr (0, [.ref j3, .int (nI L3.length)])), (j3, .inl (cI, 30, .inl f3)), (r4, .inr (0, [.ref j4, .int (nI L4.length)])), (j4, .inl (cI, 30, .inl f4)), (r5, .inr (0, [.ref j5, .int (nI P.length)])), (j5, .inl (cI, 30, .inl f5)), (r6, .inr (0, [.ref j6, .int (nI M.length)])), (j6, .inl (cI, 30, .inl f6))] := hD1
                  have hS := hS1
                  clear hP1 hD1 hS1
                  refine W.eq (g2 := F0 m 44 ls [.ref r5]) rfl ?_
                  refine lv_astore (lv' := [(4, .ref r5), (3, .int (nI 5)), (5, .int (nI k4)), (1, .long (dgl dd4 L4)), (0, .ref gp)]) hx hb dX2_digest_44 hl (by decide) rfl (fun ls hl1 => ?_)
                  clear hl
                  have hl := hl1
                  clear hl1
                  refine lv_iconst (v := (nI 0)) hx hb dX2_digest_46 (by decide +kernel) ?_
                  refine lv_istore (lv' := [(5, .int (nI 0)), (4, .ref r5), (3, .int (nI 5)), (1, .long (dgl dd4 L4)), (0, .ref gp)]) hx hb dX2_digest_47 hl (by decide) rfl (fun ls hl1 => ?_)
                  clear hl
                  have hl := hl1
                  clear hl1
                  obtain ⟨dd5, e_dd5⟩ : ∃ z : Int64, z = (dgl dd4 L4) := ⟨_, rfl⟩
                  have hl1 : lv_has ls 6 [(5, .int (nI 0)), (4, .ref r5), (3, .int (nI 5)), (1, .long dd5), (0, .ref gp)] := by rw [e_dd5]; exact hl
                  clear hl
                  have hl := hl1
                  clear hl1
                  refine g_heap (fun H_94 lc_95 eH9 eL9 => ?_)
                  have hP1 : va_P G vwCl [(aa, .inl (cI, 30, .inl KA)), (ta, .inl (cI, 30, .inl TA)), (gp, .inr (2, [.ref sh, .ref r5, .ref r6, .ref aa, .ref ta, .int nA, .int nH, .int nP, .int nM, .ref ts, .ref t5])), (sh, .inr (1, [.ref r1, .ref r2, .ref r3, .ref r4, .int (nI rc), .int (nI bo), .int lv])), (r1, .inr (0, [.ref j1, .int (nI L1.length)])), (j1, .inl (cI, 30, .inl f1)), (r2, .inr (0, [.ref j2, .int (nI L2.length)])), (j2, .inl (cI, 30, .inl f2)), (r3, .inr (0, [.ref j3, .int (nI L3.length)])), (j3, .inl (cI, 30, .inl f3)), (r4, .inr (0, [.ref j4, .int (nI L4.length)])), (j4, .inl (cI, 30, .inl f4)), (r5, .inr (0, [.ref j5, .int (nI P.length)])), (j5, .inl (cI, 30, .inl f5)), (r6, .inr (0, [.ref j6, .int (nI M.length)])), (j6, .inl (cI, 30, .inl f6))] H_94 := by rw [eH9]; exact hP
                  have hS1 : va_S A s.heap H_94 lc_95 := by rw [eH9, eL9]; exact hS
                  clear hP hS eH9 eL9
                  have hP := hP1
                  have hS := hS1
                  clear hP1 hS1
                  have hl1 : lv_has ls 6 [(5, .int (nI 0)), (4, .ref r5), (3, .int (nI 5)), (1, .long (dgl dd5 (P.take 0))), (0, .ref gp)] := by rw [lg_0]; exact hl
                  clear hl
                  have hl := hl1
                  clear hl1
                  have hl0 := lv_sub (l' := [(5, .int (nI 0)), (1, .long (dgl dd5 (P.take 0))), (4, .ref r5), (3, .int (nI 5)), (0, .ref gp)]) hl [0, 3, 1, 2, 4] rfl
                  clear hl
                  have pk0 : 0 ≤ P.length ∧ va_P G vwCl [(aa, .inl (cI, 30, .inl KA)), (ta, .inl (cI, 30, .inl TA)), (gp, .inr (2, [.ref sh, .ref r5, .ref r6, .ref aa, .ref ta, .int nA, .int nH, .int nP, .int nM, .ref ts, .ref t5])), (sh, .inr (1, [.ref r1, .ref r2, .ref r3, .ref r4, .int (nI rc), .int (nI bo), .int lv])), (r1, .inr (0, [.ref j1, .int (nI L1.length)])), (j1, .inl (cI, 30, .inl f1)), (r2, .inr (0, [.ref j2, .int (nI L2.length)])), (j2, .inl (cI, 30, .inl f2)), (r3, .inr (0, [.ref j3, .int (nI L3.length)])), (j3, .inl (cI, 30, .inl f3)), (r4, .inr (0, [.ref j4, .int (nI L4.length)])), (j4, .inl (cI, 30, .inl f4)), (r5, .inr (0, [.ref j5, .int (nI P.length)])), (j5, .inl (cI, 30, .inl f5)), (r6, .inr (0, [.ref j6, .int (nI M.length)])), (j6, .inl (cI, 30, .inl f6))] H_94 ∧ va_D A [(aa, .inl (cI, 30, .inl KA)), (ta, .inl (cI, 30, .inl TA)), (gp, .inr (2, [.ref sh, .ref r5, .ref r6, .ref aa, .ref ta, .int nA, .int nH, .int nP, .int nM, .ref ts, .ref t5])), (sh, .inr (1, [.ref r1, .ref r2, .ref r3, .ref r4, .int (nI rc), .int (nI bo), .int lv])), (r1, .inr (0, [.ref j1, .int (nI L1.length)])), (j1, .inl (cI, 30, .inl f1)), (r2, .inr (0, [.ref j2, .int (nI L2.length)])), (j2, .inl (cI, 30, .inl f2)), (r3, .inr (0, [.ref j3, .int (nI L3.length)])), (j3, .inl (cI, 30, .inl f3)), (r4, .inr (0, [.ref j4, .int (nI L4.length)])), (j4, .inl (cI, 30, .inl f4)), (r5, .inr (0, [.ref j5, .int (nI P.length)])), (j5, .inl (cI, 30, .inl f5)), (r6, .inr (0, [.ref j6, .int (nI M.length)])), (j6, .inl (cI, 30, .inl f6))] ∧ va_S A s.heap H_94 lc_95 ∧ lv_has ls 6 [(5, .int (nI 0)), (1, .long (dgl dd5 (P.take 0))), (4, .ref r5), (3, .int (nI 5)), (0, .ref gp)] := ⟨(Nat.zero_le _), hP, hD, hS, hl0⟩
                  clear hP hD hS hl0 
                  obtain ⟨k5, er5⟩ : ∃ k5 : Nat, k5 = 0 := ⟨0, rfl⟩
                  have pk1 : P.length - k5 < (P.length - 0) + 1 ∧ k5 ≤ P.length ∧ va_P G vwCl [(aa, .inl (cI, 30, .inl KA)), (ta, .inl (cI, 30, .inl TA)), (gp, .inr (2, [.ref sh, .ref r5, .ref r6, .ref aa, .ref ta, .int nA, .int nH, .int nP, .int nM, .ref ts, .ref t5])), (sh, .inr (1, [.ref r1, .ref r2, .ref r3, .ref r4, .int (nI rc), .int (nI bo), .int lv])), (r1, .inr (0, [.ref j1, .int (nI L1.length)])), (j1, .inl (cI, 30, .inl f1)), (r2, .inr (0, [.ref j2, .int (nI L2.length)])), (j2, .inl (cI, 30, .inl f2)), (r3, .inr (0, [.ref j3, .int (nI L3.length)])), (j3, .inl (cI, 30, .inl f3)), (r4, .inr (0, [.ref j4, .int (nI L4.length)])), (j4, .inl (cI, 30, .inl f4)), (r5, .inr (0, [.ref j5, .int (nI P.length)])), (j5, .inl (cI, 30, .inl f5)), (r6, .inr (0, [.ref j6, .int (nI M.length)])), (j6, .inl (cI, 30, .inl f6))] H_94 ∧ va_D A [(aa, .inl (cI, 30, .inl KA)), (ta, .inl (cI, 30, .inl TA)), (gp, .inr (2, [.ref sh, .ref r5, .ref r6, .ref aa, .ref ta, .int nA, .int nH, .int nP, .int nM, .ref ts, .ref t5])), (sh, .inr (1, [.ref r1, .ref r2, .ref r3, .ref r4, .int (nI rc), .int (nI bo), .int lv])), (r1, .inr (0, [.ref j1, .int (nI L1.length)])), (j1, .inl (cI, 30, .inl f1)), (r2, .inr (0, [.ref j2, .int (nI L2.length)])), (j2, .inl (cI, 30, .inl f2)), (r3, .inr (0, [.ref j3, .int (nI L3.length)])), (j3, .inl (cI, 30, .inl f3)), (r4, .inr (0, [.ref j4, .int (nI L4.length)])), (j4, .inl (cI, 30, .inl f4)), (r5, .inr (0, [.ref j5, .int (nI P.length)])), (j5, .inl (cI, 30, .inl f5)), (r6, .inr (0, [.ref j6, .int (nI M.length)])), (j6, .inl (cI, 30, .inl f6))] ∧ va_S A s.heap H_94 lc_95 ∧ lv_has ls 6 [(5, .int (nI k5)), (1, .long (dgl dd5 (P.take k5))), (4, .ref r5), (3, .int (nI 5)), (0, .ref gp)] := ⟨by omega, by rw [er5]; exact pk0⟩
                  clear pk0 er5
                  generalize (P.length - 0) + 1 = nr5 at pk1
                  induction nr5 generalizing k5 ls H_94 lc_95 with
                  | zero => exact absurd pk1.1 (Nat.not_lt_zero _)
                  | succ nr5 ihr5 =>
                    obtain ⟨hnr5, hk95, hP, hD, hS, hl⟩ := pk1
                    refine lv_aload hx hb dX2_digest_49 (lv_at hl 2 rfl) ?_
                    refine lv_ifnull hx hb dX2_digest_51 ?_
                    refine lv_iload hx hb dX2_digest_54 (lv_at hl 0 rfl) ?_
                    refine lv_aload hx hb dX2_digest_56 (lv_at hl 2 rfl) ?_
                    have hPc := hP.sub (ws' := [(r5, .inr (0, [.ref j5, .int (nI P.length)])), (j5, .inl (cI, 30, .inl f5))]) [12, 13] rfl
                    have hDc := hD.sub (ws' := [(r5, .inr (0, [.ref j5, .int (nI P.length)])), (j5, .inl (cI, 30, .inl f5))]) [12, 13] (by decide) rfl
                    have hKc := hK.sub (tys' := [(cI, .int)]) [0] rfl
                    have hFc := va_free (wc := [(r5, .inr (0, [.ref j5, .int (nI P.length)])), (j5, .inl (cI, 30, .inl f5))]) hD hS hA [12, 13] rfl
                    refine va_calli (va_runV (As := []) (rest := [.int (nI k5)]) ⟨hx, hb, hml, hown, hts⟩ (c_X0_length l G cI r5 j5 f5 P hR5 (by omega)  H_94.size) (cwV 0 hts gX2_digest_X0_length rfl rfl rfl (by decide +kernel) ⟨Nat.le_of_ble_eq_true rfl, Nat.le_of_ble_eq_true rfl⟩) (g_preV (As := []) hPc hKc hDc 0 rfl rfl) rfl rfl hl.1 rfl (lv_room (Nat.le_of_ble_eq_true rfl)) dX2_digest_58 ⟨(Nat.le_of_ble_eq_true rfl), (Nat.le_of_ble_eq_true rfl)⟩) hS (fun q _ h => hFc q h) hFc (fun r_97 u_98 t H_96 locs ht hvm hw hB hz1 hk1 hS1 => ?_)
                    subst hw
                    obtain ⟨hP1, hD1⟩ := g_join (wc := [(r5, .inr (0, [.ref j5, .int (nI P.length)])), (j5, .inl (cI, 30, .inl f5))]) (wr := [(aa, .inl (cI, 30, .inl KA)), (ta, .inl (cI, 30, .inl TA)), (gp, .inr (2, [.ref sh, .ref r5, .ref r6, .ref aa, .ref ta, .int nA, .int nH, .int nP, .int nM, .ref ts, .ref t5])), (sh, .inr (1, [.ref r1, .ref r2, .ref r3, .ref r4, .int (nI rc), .int (nI bo), .int lv])), (r1, .inr (0, [.ref j1, .int (nI L1.length)])), (j1, .inl (cI, 30, .inl f1)), (r2, .inr (0, [.ref j2, .int (nI L2.length)])), (j2, .inl (cI, 30, .inl f2)), (r3, .inr (0, [.ref j3, .int (nI L3.length)])), (j3, .inl (cI, 30, .inl f3)), (r4, .inr (0, [.ref j4, .int (nI L4.length)])), (j4, .inl (cI, 30, .inl f4)), (r6, .inr (0, [.ref j6, .int (nI M.length)])), (j6, .inl (cI, 30, .inl f6))]) (w1 := [(r5, .inr (0, [.ref j5, .int (nI P.length)])), (j5, .inl (cI, 30, .inl f5))]) hP hD [12, 13] [0, 1, 2, 3, 4, 5, 6, 7, 8, 9, 10, 11, 14, 15] rfl rfl (by decide) (by decide) ht hk1 hFc hB
                    clear hB hk1 hz1 hvm ht hPc hDc hKc hFc
                    clear hP hD hS
                    have hP : va_P G vwCl [(aa, .inl (cI, 30, .inl KA)), (ta, .inl (cI, 30, .inl TA)), (gp, .inr (2, [.ref sh, .ref r5, .ref r6, .ref aa, .ref ta, .int nA, .int nH, .int nP, .int nM, .ref ts, .ref t5])), (sh, .inr (1, [.ref r1, .ref r2, .ref r3, .ref r4, .int (nI rc), .int (nI bo), .int lv])), (r1, .inr (0, [.ref j1, .int (nI L1.length)])), (j1, .inl (cI, 30, .inl f1)), (r2, .inr (0, [.ref j2, .int (nI L2.length)])), (j2, .inl (cI, 30, .inl f2)), (r3, .inr (0, [.ref j3, .int (nI L3.length)])), (j3, .inl (cI, 30, .inl f3)), (r4, .inr (0, [.ref j4, .int (nI L4.length)])), (j4, .inl (cI, 30, .inl f4)), (r6, .inr (0, [.ref j6, .int (nI M.length)])), (j6, .inl (cI, 30, .inl f6)), (r5, .inr (0, [.ref j5, .int (nI P.length)])), (j5, .inl (cI, 30, .inl f5))] H_96 := hP1
                    have hD : va_D A [(aa, .inl (cI, 30, .inl KA)), (ta, .inl (cI, 30, .inl TA)), (gp, .inr (2, [.ref sh, .ref r5, .ref r6, .ref aa, .ref ta, .int nA, .int nH, .int nP, .int nM, .ref ts, .ref t5])), (sh, .inr (1, [.ref r1, .ref r2, .ref r3, .ref r4, .int (nI rc), .int (nI bo), .int lv])), (r1, .inr (0, [.ref j1, .int (nI L1.length)])), (j1, .inl (cI, 30, .inl f1)), (r2, .inr (0, [.ref j2, .int (nI L2.length)])), (j2, .inl (cI, 30, .inl f2)), (r3, .inr (0, [.ref j3, .int (nI L3.length)])), (j3, .inl (cI, 30, .inl f3)), (r4, .inr (0, [.ref j4, .int (nI L4.length)])), (j4, .inl (cI, 30, .inl f4)), (r6, .inr (0, [.ref j6, .int (nI M.length)])), (j6, .inl (cI, 30, .inl f6)), (r5, .inr (0, [.ref j5, .int (nI P.length)])), (j5, .inl (cI, 30, .inl f5))] := hD1
                    have hS := hS1
                    clear hP1 hD1 hS1
                    refine g_icmp_ge (tgt := 85) hx hb dX2_digest_61 (by decide) (by omega) (by omega) (fun c_99 => ?_) (fun c_99 => ?_)
                    · have ek5 : P.take k5 = P := List.take_of_length_le (by omega)
                      have hl1 : lv_has ls 6 [(5, .int (nI k5)), (1, .long (dgl dd5 P)), (4, .ref r5), (3, .int (nI 5)), (0, .ref gp)] := by rw [ek5] at hl; exact hl
                      clear hl
                      have hl := hl1
                      clear hl1
                      refine lv_iinc (v := (nI 6)) (lv' := [(3, .int (nI 6)), (5, .int (nI k5)), (1, .long (dgl dd5 P)), (4, .ref r5), (0, .ref gp)]) hx hb dX2_digest_85 hl (k := 3) rfl (by decide +kernel) (by decide) rfl (fun ls hl => ?_)
                      refine lv_goto (tgt := 33) hx hb dX2_digest_88 (by decide) ?_
                      refine lv_iload_n hx hb dX2_digest_33 rfl (lv_at hl 0 rfl) ?_
                      refine lv_bipush (v := (nI 6)) hx hb dX2_digest_34 (by decide +kernel) ?_
                      refine g_icmp_gt (tgt := 91) hx hb dX2_digest_36 (by decide) (by decide) (by decide) (fun c_100 => False.elim (by omega)) (fun c_100 => ?_)
                      refine lv_aload_n hx hb dX2_digest_39 rfl (lv_at hl 4 rfl) ?_
                      refine lv_iload_n hx hb dX2_digest_40 rfl (lv_at hl 0 rfl) ?_
                      have hPc := hP.sub (ws' := [(gp, .inr (2, [.ref sh, .ref r5, .ref r6, .ref aa, .ref ta, .int nA, .int nH, .int nP, .int nM, .ref ts, .ref t5])), (sh, .inr (1, [.ref r1, .ref r2, .ref r3, .ref r4, .int (nI rc), .int (nI bo), .int lv])), (r1, .inr (0, [.ref j1, .int (nI L1.length)])), (j1, .inl (cI, 30, .inl f1)), (r2, .inr (0, [.ref j2, .int (nI L2.length)])), (j2, .inl (cI, 30, .inl f2)), (r3, .inr (0, [.ref j3, .int (nI L3.length)])), (j3, .inl (cI, 30, .inl f3)), (r4, .inr (0, [.ref j4, .int (nI L4.length)])), (j4, .inl (cI, 30, .inl f4)), (r5, .inr (0, [.ref j5, .int (nI P.length)])), (j5, .inl (cI, 30, .inl f5)), (r6, .inr (0, [.ref j6, .int (nI M.length)])), (j6, .inl (cI, 30, .inl f6))]) [2, 3, 4, 5, 6, 7, 8, 9, 10, 11, 14, 15, 12, 13] rfl
                      have hDc := hD.sub (ws' := [(gp, .inr (2, [.ref sh, .ref r5, .ref r6, .ref aa, .ref ta, .int nA, .int nH, .int nP, .int nM, .ref ts, .ref t5])), (sh, .inr (1, [.ref r1, .ref r2, .ref r3, .ref r4, .int (nI rc), .int (nI bo), .int lv])), (r1, .inr (0, [.ref j1, .int (nI L1.length)])), (j1, .inl (cI, 30, .inl f1)), (r2, .inr (0, [.ref j2, .int (nI L2.length)])), (j2, .inl (cI, 30, .inl f2)), (r3, .inr (0, [.ref j3, .int (nI L3.length)])), (j3, .inl (cI, 30, .inl f3)), (r4, .inr (0, [.ref j4, .int (nI L4.length)])), (j4, .inl (cI, 30, .inl f4)), (r5, .inr (0, [.ref j5, .int (nI P.length)])), (j5, .inl (cI, 30, .inl f5)), (r6, .inr (0, [.ref j6, .int (nI M.length)])), (j6, .inl (cI, 30, .inl f6))]) [2, 3, 4, 5, 6, 7, 8, 9, 10, 11, 14, 15, 12, 13] (by decide) rfl
                      have hKc := hK.sub (tys' := [(cI, .int)]) [0] rfl
                      have hFc := va_free (wc := [(gp, .inr (2, [.ref sh, .ref r5, .ref r6, .ref aa, .ref ta, .int nA, .int nH, .int nP, .int nM, .ref ts, .ref t5])), (sh, .inr (1, [.ref r1, .ref r2, .ref r3, .ref r4, .int (nI rc), .int (nI bo), .int lv])), (r1, .inr (0, [.ref j1, .int (nI L1.length)])), (j1, .inl (cI, 30, .inl f1)), (r2, .inr (0, [.ref j2, .int (nI L2.length)])), (j2, .inl (cI, 30, .inl f2)), (r3, .inr (0, [.ref j3, .int (nI L3.length)])), (j3, .inl (cI, 30, .inl f3)), (r4, .inr (0, [.ref j4, .int (nI L4.length)])), (j4, .inl (cI, 30, .inl f4)), (r5, .inr (0, [.ref j5, .int (nI P.length)])), (j5, .inl (cI, 30, .inl f5)), (r6, .inr (0, [.ref j6, .int (nI M.length)])), (j6, .inl (cI, 30, .inl f6))]) hD hS hA [2, 3, 4, 5, 6, 7, 8, 9, 10, 11, 14, 15, 12, 13] rfl
                      refine va_callq (va_runV (As := [.int (nI 6)]) (rest := []) ⟨hx, hb, hml, hown, hts⟩ (c_X2_rowNumbered_6 l G cI gp sh r5 r6 aa ta ts t5 nA nH nP nM r1 r2 r3 r4 j1 j2 j3 j4 f1 f2 f3 f4 L1 L2 L3 L4 rc bo lv hR1 hR2 hR3 hR4 j5 f5 P hR5 j6 f6 M hR6  H_96.size) (cwV 1 hts gX2_digest_X2_rowNumbered rfl rfl rfl (by decide +kernel) ⟨Nat.le_of_ble_eq_true rfl, Nat.le_of_ble_eq_true rfl⟩) (g_preV (As := [.int (nI 6)]) hPc hKc hDc 0 rfl rfl) rfl rfl hl.1 rfl (lv_room (Nat.le_of_ble_eq_true rfl)) dX2_digest_41 ⟨(Nat.le_of_ble_eq_true rfl), (Nat.le_of_ble_eq_true rfl)⟩) hS (fun q _ h => hFc q h) hFc (fun r_102 u_103 t H_101 locs ht hvm hw hB hz1 hk1 hS1 => ?_)
                      subst hw
                      obtain ⟨hP1, hD1⟩ := g_join (wc := [(gp, .inr (2, [.ref sh, .ref r5, .ref r6, .ref aa, .ref ta, .int nA, .int nH, .int nP, .int nM, .ref ts, .ref t5])), (sh, .inr (1, [.ref r1, .ref r2, .ref r3, .ref r4, .int (nI rc), .int (nI bo), .int lv])), (r1, .inr (0, [.ref j1, .int (nI L1.length)])), (j1, .inl (cI, 30, .inl f1)), (r2, .inr (0, [.ref j2, .int (nI L2.length)])), (j2, .inl (cI, 30, .inl f2)), (r3, .inr (0, [.ref j3, .int (nI L3.length)])), (j3, .inl (cI, 30, .inl f3)), (r4, .inr (0, [.ref j4, .int (nI L4.length)])), (j4, .inl (cI, 30, .inl f4)), (r5, .inr (0, [.ref j5, .int (nI P.length)])), (j5, .inl (cI, 30, .inl f5)), (r6, .inr (0, [.ref j6, .int (nI M.length)])), (j6, .inl (cI, 30, .inl f6))]) (wr := [(aa, .inl (cI, 30, .inl KA)), (ta, .inl (cI, 30, .inl TA))]) (w1 := [(gp, .inr (2, [.ref sh, .ref r5, .ref r6, .ref aa, .ref ta, .int nA, .int nH, .int nP, .int nM, .ref ts, .ref t5])), (sh, .inr (1, [.ref r1, .ref r2, .ref r3, .ref r4, .int (nI rc), .int (nI bo), .int lv])), (r1, .inr (0, [.ref j1, .int (nI L1.length)])), (j1, .inl (cI, 30, .inl f1)), (r2, .inr (0, [.ref j2, .int (nI L2.length)])), (j2, .inl (cI, 30, .inl f2)), (r3, .inr (0, [.ref j3, .int (nI L3.length)])), (j3, .inl (cI, 30, .inl f3)), (r4, .inr (0, [.ref j4, .int (nI L4.length)])), (j4, .inl (cI, 30, .inl f4)), (r5, .inr (0, [.ref j5, .int (nI P.length)])), (j5, .inl (cI, 30, .inl f5)), (r6, .inr (0, [.ref j6, .int (nI M.length)])), (j6, .inl (cI, 30, .inl f6))]) hP hD [2, 3, 4, 5, 6, 7, 8, 9, 10, 11, 14, 15, 12, 13] [0, 1] rfl rfl (by decide) (by decide) ht hk1 hFc hB
                      clear hB hk1 hz1 hvm ht hPc hDc hKc hFc
                      clear hP hD hS
                      have hP : va_P G vwCl [(aa, .inl (cI, 30, .inl KA)), (ta, .inl (cI, 30, .inl TA)), (gp, .inr (2, [.ref sh, .ref r5, .ref r6, .ref aa, .ref ta, .int nA, .int nH, .int nP, .int nM, .ref ts, .ref t5])), (sh, .inr (1, [.ref r1, .ref r2, .ref r3, .ref r4, .int (nI rc), .int (nI bo), .int lv])), (r1, .inr (0, [.ref j1, .int (nI L1.length)])), (j1, .inl (cI, 30, .inl f1)), (r2, .inr (0, [.ref j2, .int (nI L2.length)])), (j2, .inl (cI, 30, .inl f2)), (r3, .inr (0, [.ref j3, .int (nI L3.length)])), (j3, .inl (cI, 30, .inl f3)), (r4, .inr (0, [.ref j4, .int (nI L4.length)])), (j4, .inl (cI, 30, .inl f4)), (r5, .inr (0, [.ref j5, .int (nI P.length)])), (j5, .inl (cI, 30, .inl f5)), (r6, .inr (0, [.ref j6, .int (nI M.length)])), (j6, .inl (cI, 30, .inl f6))] H_101 := hP1
                      have hD : va_D A [(aa, .inl (cI, 30, .inl KA)), (ta, .inl (cI, 30, .inl TA)), (gp, .inr (2, [.ref sh, .ref r5, .ref r6, .ref aa, .ref ta, .int nA, .int nH, .int nP, .int nM, .ref ts, .ref t5])), (sh, .inr (1, [.ref r1, .ref r2, .ref r3, .ref r4, .int (nI rc), .int (nI bo), .int lv])), (r1, .inr (0, [.ref j1, .int (nI L1.length)])), (j1, .inl (cI, 30, .inl f1)), (r2, .inr (0, [.ref j2, .int (nI L2.length)])), (j2, .inl (cI, 30, .inl f2)), (r3, .inr (0, [.ref j3, .int (nI L3.length)])), (j3, .inl (cI, 30, .inl f3)), (r4, .inr (0, [.ref j4, .int (nI L4.length)])), (j4, .inl (cI, 30, .inl f4)), (r5, .inr (0, [.ref j5, .int (nI P.length)])), (j5, .inl (cI, 30, .inl f5)), (r6, .inr (0, [.ref j6, .int (nI M.length)])), (j6, .inl (cI, 30, .inl f6))] := hD1
                      have hS := hS1
                      clear hP1 hD1 hS1
                      refine W.eq (g2 := F0 m 44 ls [.ref r6]) rfl ?_
                      refine lv_astore (lv' := [(4, .ref r6), (3, .int (nI 6)), (5, .int (nI k5)), (1, .long (dgl dd5 P)), (0, .ref gp)]) hx hb dX2_digest_44 hl (by decide) rfl (fun ls hl1 => ?_)
                      clear hl
                      have hl := hl1
                      clear hl1
                      refine lv_iconst (v := (nI 0)) hx hb dX2_digest_46 (by decide +kernel) ?_
                      refine lv_istore (lv' := [(5, .int (nI 0)), (4, .ref r6), (3, .int (nI 6)), (1, .long (dgl dd5 P)), (0, .ref gp)]) hx hb dX2_digest_47 hl (by decide) rfl (fun ls hl1 => ?_)
                      clear hl
                      have hl := hl1
                      clear hl1
                      obtain ⟨dd6, e_dd6⟩ : ∃ z : Int64, z = (dgl dd5 P) := ⟨_, rfl⟩
                      have hl1 : lv_has ls 6 [(5, .int (nI 0)), (4, .ref r6), (3, .int (nI 6)), (1, .long dd6), (0, .ref gp)] := by rw [e_dd6]; exact hl
                      clear hl
                      have hl := hl1
                      clear hl1
                      refine g_heap (fun H_104 lc_105 eH9 eL9 => ?_)
                      have hP1 : va_P G vwCl [(aa, .inl (cI, 30, .inl KA)), (ta, .inl (cI, 30, .inl TA)), (gp, .inr (2, [.ref sh, .ref r5, .ref r6, .ref aa, .ref ta, .int nA, .int nH, .int nP, .int nM, .ref ts, .ref t5])), (sh, .inr (1, [.ref r1, .ref r2, .ref r3, .ref r4, .int (nI rc), .int (nI bo), .int lv])), (r1, .inr (0, [.ref j1, .int (nI L1.length)])), (j1, .inl (cI, 30, .inl f1)), (r2, .inr (0, [.ref j2, .int (nI L2.length)])), (j2, .inl (cI, 30, .inl f2)), (r3, .inr (0, [.ref j3, .int (nI L3.length)])), (j3, .inl (cI, 30, .inl f3)), (r4, .inr (0, [.ref j4, .int (nI L4.length)])), (j4, .inl (cI, 30, .inl f4)), (r5, .inr (0, [.ref j5, .int (nI P.length)])), (j5, .inl (cI, 30, .inl f5)), (r6, .inr (0, [.ref j6, .int (nI M.length)])), (j6, .inl (cI, 30, .inl f6))] H_104 := by rw [eH9]; exact hP
                      have hS1 : va_S A s.heap H_104 lc_105 := by rw [eH9, eL9]; exact hS
                      clear hP hS eH9 eL9
                      have hP := hP1
                      have hS := hS1
                      clear hP1 hS1
                      have hl1 : lv_has ls 6 [(5, .int (nI 0)), (4, .ref r6), (3, .int (nI 6)), (1, .long (dgl dd6 (M.take 0))), (0, .ref gp)] := by rw [lg_0]; exact hl
                      clear hl
                      have hl := hl1
                      clear hl1
                      have hl0 := lv_sub (l' := [(5, .int (nI 0)), (1, .long (dgl dd6 (M.take 0))), (4, .ref r6), (3, .int (nI 6)), (0, .ref gp)]) hl [0, 3, 1, 2, 4] rfl
                      clear hl
                      have pk0 : 0 ≤ M.length ∧ va_P G vwCl [(aa, .inl (cI, 30, .inl KA)), (ta, .inl (cI, 30, .inl TA)), (gp, .inr (2, [.ref sh, .ref r5, .ref r6, .ref aa, .ref ta, .int nA, .int nH, .int nP, .int nM, .ref ts, .ref t5])), (sh, .inr (1, [.ref r1, .ref r2, .ref r3, .ref r4, .int (nI rc), .int (nI bo), .int lv])), (r1, .inr (0, [.ref j1, .int (nI L1.length)])), (j1, .inl (cI, 30, .inl f1)), (r2, .inr (0, [.ref j2, .int (nI L2.length)])), (j2, .inl (cI, 30, .inl f2)), (r3, .inr (0, [.ref j3, .int (nI L3.length)])), (j3, .inl (cI, 30, .inl f3)), (r4, .inr (0, [.ref j4, .int (nI L4.length)])), (j4, .inl (cI, 30, .inl f4)), (r5, .inr (0, [.ref j5, .int (nI P.length)])), (j5, .inl (cI, 30, .inl f5)), (r6, .inr (0, [.ref j6, .int (nI M.length)])), (j6, .inl (cI, 30, .inl f6))] H_104 ∧ va_D A [(aa, .inl (cI, 30, .inl KA)), (ta, .inl (cI, 30, .inl TA)), (gp, .inr (2, [.ref sh, .ref r5, .ref r6, .ref aa, .ref ta, .int nA, .int nH, .int nP, .int nM, .ref ts, .ref t5])), (sh, .inr (1, [.ref r1, .ref r2, .ref r3, .ref r4, .int (nI rc), .int (nI bo), .int lv])), (r1, .inr (0, [.ref j1, .int (nI L1.length)])), (j1, .inl (cI, 30, .inl f1)), (r2, .inr (0, [.ref j2, .int (nI L2.length)])), (j2, .inl (cI, 30, .inl f2)), (r3, .inr (0, [.ref j3, .int (nI L3.length)])), (j3, .inl (cI, 30, .inl f3)), (r4, .inr (0, [.ref j4, .int (nI L4.length)])), (j4, .inl (cI, 30, .inl f4)), (r5, .inr (0, [.ref j5, .int (nI P.length)])), (j5, .inl (cI, 30, .inl f5)), (r6, .inr (0, [.ref j6, .int (nI M.length)])), (j6, .inl (cI, 30, .inl f6))] ∧ va_S A s.heap H_104 lc_105 ∧ lv_has ls 6 [(5, .int (nI 0)), (1, .long (dgl dd6 (M.take 0))), (4, .ref r6), (3, .int (nI 6)), (0, .ref gp)] := ⟨(Nat.zero_le _), hP, hD, hS, hl0⟩
                      clear hP hD hS hl0 
                      obtain ⟨k6, er6⟩ : ∃ k6 : Nat, k6 = 0 := ⟨0, rfl⟩
                      have pk1 : M.length - k6 < (M.length - 0) + 1 ∧ k6 ≤ M.length ∧ va_P G vwCl [(aa, .inl (cI, 30, .inl KA)), (ta, .inl (cI, 30, .inl TA)), (gp, .inr (2, [.ref sh, .ref r5, .ref r6, .ref aa, .ref ta, .int nA, .int nH, .int nP, .int nM, .ref ts, .ref t5])), (sh, .inr (1, [.ref r1, .ref r2, .ref r3, .ref r4, .int (nI rc), .int (nI bo), .int lv])), (r1, .inr (0, [.ref j1, .int (nI L1.length)])), (j1, .inl (cI, 30, .inl f1)), (r2, .inr (0, [.ref j2, .int (nI L2.length)])), (j2, .inl (cI, 30, .inl f2)), (r3, .inr (0, [.ref j3, .int (nI L3.length)])), (j3, .inl (cI, 30, .inl f3)), (r4, .inr (0, [.ref j4, .int (nI L4.length)])), (j4, .inl (cI, 30, .inl f4)), (r5, .inr (0, [.ref j5, .int (nI P.length)])), (j5, .inl (cI, 30, .inl f5)), (r6, .inr (0, [.ref j6, .int (nI M.length)])), (j6, .inl (cI, 30, .inl f6))] H_104 ∧ va_D A [(aa, .inl (cI, 30, .inl KA)), (ta, .inl (cI, 30, .inl TA)), (gp, .inr (2, [.ref sh, .ref r5, .ref r6, .ref aa, .ref ta, .int nA, .int nH, .int nP, .int nM, .ref ts, .ref t5])), (sh, .inr (1, [.ref r1, .ref r2, .ref r3, .ref r4, .int (nI rc), .int (nI bo), .int lv])), (r1, .inr (0, [.ref j1, .int (nI L1.length)])), (j1, .inl (cI, 30, .inl f1)), (r2, .inr (0, [.ref j2, .int (nI L2.length)])), (j2, .inl (cI, 30, .inl f2)), (r3, .inr (0, [.ref j3, .int (nI L3.length)])), (j3, .inl (cI, 30, .inl f3)), (r4, .inr (0, [.ref j4, .int (nI L4.length)])), (j4, .inl (cI, 30, .inl f4)), (r5, .inr (0, [.ref j5, .int (nI P.length)])), (j5, .inl (cI, 30, .inl f5)), (r6, .inr (0, [.ref j6, .int (nI M.length)])), (j6, .inl (cI, 30, .inl f6))] ∧ va_S A s.heap H_104 lc_105 ∧ lv_has ls 6 [(5, .int (nI k6)), (1, .long (dgl dd6 (M.take k6))), (4, .ref r6), (3, .int (nI 6)), (0, .ref gp)] := ⟨by omega, by rw [er6]; exact pk0⟩
                      clear pk0 er6
                      generalize (M.length - 0) + 1 = nr6 at pk1
                      induction nr6 generalizing k6 ls H_104 lc_105 with
                      | zero => exact absurd pk1.1 (Nat.not_lt_zero _)
                      | succ nr6 ihr6 =>
                        obtain ⟨hnr6, hk96, hP, hD, hS, hl⟩ := pk1
                        refine lv_aload hx hb dX2_digest_49 (lv_at hl 2 rfl) ?_
                        refine lv_ifnull hx hb dX2_digest_51 ?_
                        refine lv_iload hx hb dX2_digest_54 (lv_at hl 0 rfl) ?_
                        refine lv_aload hx hb dX2_digest_56 (lv_at hl 2 rfl) ?_
                        have hPc := hP.sub (ws' := [(r6, .inr (0, [.ref j6, .int (nI M.length)])), (j6, .inl (cI, 30, .inl f6))]) [14, 15] rfl
                        have hDc := hD.sub (ws' := [(r6, .inr (0, [.ref j6, .int (nI M.length)])), (j6, .inl (cI, 30, .inl f6))]) [14, 15] (by decide) rfl
                        have hKc := hK.sub (tys' := [(cI, .int)]) [0] rfl
                        have hFc := va_free (wc := [(r6, .inr (0, [.ref j6, .int (nI M.length)])), (j6, .inl (cI, 30, .inl f6))]) hD hS hA [14, 15] rfl
                        refine va_calli (va_runV (As := []) (rest := [.int (nI k6)]) ⟨hx, hb, hml, hown, hts⟩ (c_X0_length l G cI r6 j6 f6 M hR6 (by omega)  H_104.size) (cwV 0 hts gX2_digest_X0_length rfl rfl rfl (by decide +kernel) ⟨Nat.le_of_ble_eq_true rfl, Nat.le_of_ble_eq_true rfl⟩) (g_preV (As := []) hPc hKc hDc 0 rfl rfl) rfl rfl hl.1 rfl (lv_room (Nat.le_of_ble_eq_true rfl)) dX2_digest_58 ⟨(Nat.le_of_ble_eq_true rfl), (Nat.le_of_ble_eq_true rfl)⟩) hS (fun q _ h => hFc q h) hFc (fun r_107 u_108 t H_106 locs ht hvm hw hB hz1 hk1 hS1 => ?_)
                        subst hw
                        obtain ⟨hP1, hD1⟩ := g_join (wc := [(r6, .inr (0, [.ref j6, .int (nI M.length)])), (j6, .inl (cI, 30, .inl f6))]) (wr := [(aa, .inl (cI, 30, .inl KA)), (ta, .inl (cI, 30, .inl TA)), (gp, .inr (2, [.ref sh, .ref r5, .ref r6, .ref aa, .ref ta, .int nA, .int nH, .int nP, .int nM, .ref ts, .ref t5])), (sh, .inr (1, [.ref r1, .ref r2, .ref r3, .ref r4, .int (nI rc), .int (nI bo), .int lv])), (r1, .inr (0, [.ref j1, .int (nI L1.length)])), (j1, .inl (cI, 30, .inl f1)), (r2, .inr (0, [.ref j2, .int (nI L2.length)])), (j2, .inl (cI, 30, .inl f2)), (r3, .inr (0, [.ref j3, .int (nI L3.length)])), (j3, .inl (cI, 30, .inl f3)), (r4, .inr (0, [.ref j4, .int (nI L4.length)])), (j4, .inl (cI, 30, .inl f4)), (r5, .inr (0, [.ref j5, .int (nI P.length)])), (j5, .inl (cI, 30, .inl f5))]) (w1 := [(r6, .inr (0, [.ref j6, .int (nI M.length)])), (j6, .inl (cI, 30, .inl f6))]) hP hD [14, 15] [0, 1, 2, 3, 4, 5, 6, 7, 8, 9, 10, 11, 12, 13] rfl rfl (by decide) (by decide) ht hk1 hFc hB
                        clear hB hk1 hz1 hvm ht hPc hDc hKc hFc
                        clear hP hD hS
                        have hP : va_P G vwCl [(aa, .inl (cI, 30, .inl KA)), (ta, .inl (cI, 30, .inl TA)), (gp, .inr (2, [.ref sh, .ref r5, .ref r6, .ref aa, .ref ta, .int nA, .int nH, .int nP, .int nM, .ref ts, .ref t5])), (sh, .inr (1, [.ref r1, .ref r2, .ref r3, .ref r4, .int (nI rc), .int (nI bo), .int lv])), (r1, .inr (0, [.ref j1, .int (nI L1.length)])), (j1, .inl (cI, 30, .inl f1)), (r2, .inr (0, [.ref j2, .int (nI L2.length)])), (j2, .inl (cI, 30, .inl f2)), (r3, .inr (0, [.ref j3, .int (nI L3.length)])), (j3, .inl (cI, 30, .inl f3)), (r4, .inr (0, [.ref j4, .int (nI L4.length)])), (j4, .inl (cI, 30, .inl f4)), (r5, .inr (0, [.ref j5, .int (nI P.length)])), (j5, .inl (cI, 30, .inl f5)), (r6, .inr (0, [.ref j6, .int (nI M.length)])), (j6, .inl (cI, 30, .inl f6))] H_106 := hP1
                        have hD : va_D A [(aa, .inl (cI, 30, .inl KA)), (ta, .inl (cI, 30, .inl TA)), (gp, .inr (2, [.ref sh, .ref r5, .ref r6, .ref aa, .ref ta, .int nA, .int nH, .int nP, .int nM, .ref ts, .ref t5])), (sh, .inr (1, [.ref r1, .ref r2, .ref r3, .ref r4, .int (nI rc), .int (nI bo), .int lv])), (r1, .inr (0, [.ref j1, .int (nI L1.length)])), (j1, .inl (cI, 30, .inl f1)), (r2, .inr (0, [.ref j2, .int (nI L2.length)])), (j2, .inl (cI, 30, .inl f2)), (r3, .inr (0, [.ref j3, .int (nI L3.length)])), (j3, .inl (cI, 30, .inl f3)), (r4, .inr (0, [.ref j4, .int (nI L4.length)])), (j4, .inl (cI, 30, .inl f4)), (r5, .inr (0, [.ref j5, .int (nI P.length)])), (j5, .inl (cI, 30, .inl f5)), (r6, .inr (0, [.ref j6, .int (nI M.length)])), (j6, .inl (cI, 30, .inl f6))] := hD1
                        have hS := hS1
                        clear hP1 hD1 hS1
                        refine g_icmp_ge (tgt := 85) hx hb dX2_digest_61 (by decide) (by omega) (by omega) (fun c_109 => ?_) (fun c_109 => ?_)
                        · have ek6 : M.take k6 = M := List.take_of_length_le (by omega)
                          have hl1 : lv_has ls 6 [(5, .int (nI k6)), (1, .long (dgl dd6 M)), (4, .ref r6), (3, .int (nI 6)), (0, .ref gp)] := by rw [ek6] at hl; exact hl
                          clear hl
                          have hl := hl1
                          clear hl1
                          refine lv_iinc (v := (nI 7)) (lv' := [(3, .int (nI 7)), (5, .int (nI k6)), (1, .long (dgl dd6 M)), (4, .ref r6), (0, .ref gp)]) hx hb dX2_digest_85 hl (k := 3) rfl (by decide +kernel) (by decide) rfl (fun ls hl => ?_)
                          refine lv_goto (tgt := 33) hx hb dX2_digest_88 (by decide) ?_
                          refine lv_iload_n hx hb dX2_digest_33 rfl (lv_at hl 0 rfl) ?_
                          refine lv_bipush (v := (nI 6)) hx hb dX2_digest_34 (by decide +kernel) ?_
                          refine g_icmp_gt (tgt := 91) hx hb dX2_digest_36 (by decide) (by decide) (by decide) (fun c_110 => ?_) (fun c_110 => False.elim (by omega))
                          refine lv_iconst (v := (nI 0)) hx hb dX2_digest_91 (by decide +kernel) ?_
                          refine lv_istore_n (lv' := [(3, .int (nI 0)), (5, .int (nI k6)), (1, .long (dgl dd6 M)), (4, .ref r6), (0, .ref gp)]) hx hb dX2_digest_92 rfl hl (by decide) rfl (fun ls hl1 => ?_)
                          clear hl
                          have hl := hl1
                          clear hl1
                          obtain ⟨dd7, e_dd7⟩ : ∃ z : Int64, z = (dgl dd6 M) := ⟨_, rfl⟩
                          have hl1 : lv_has ls 6 [(3, .int (nI 0)), (5, .int (nI k6)), (1, .long dd7), (4, .ref r6), (0, .ref gp)] := by rw [e_dd7]; exact hl
                          clear hl
                          have hl := hl1
                          clear hl1
                          refine g_heap (fun H_111 lc_112 eH9 eL9 => ?_)
                          have hP1 : va_P G vwCl [(aa, .inl (cI, 30, .inl KA)), (ta, .inl (cI, 30, .inl TA)), (gp, .inr (2, [.ref sh, .ref r5, .ref r6, .ref aa, .ref ta, .int nA, .int nH, .int nP, .int nM, .ref ts, .ref t5])), (sh, .inr (1, [.ref r1, .ref r2, .ref r3, .ref r4, .int (nI rc), .int (nI bo), .int lv])), (r1, .inr (0, [.ref j1, .int (nI L1.length)])), (j1, .inl (cI, 30, .inl f1)), (r2, .inr (0, [.ref j2, .int (nI L2.length)])), (j2, .inl (cI, 30, .inl f2)), (r3, .inr (0, [.ref j3, .int (nI L3.length)])), (j3, .inl (cI, 30, .inl f3)), (r4, .inr (0, [.ref j4, .int (nI L4.length)])), (j4, .inl (cI, 30, .inl f4)), (r5, .inr (0, [.ref j5, .int (nI P.length)])), (j5, .inl (cI, 30, .inl f5)), (r6, .inr (0, [.ref j6, .int (nI M.length)])), (j6, .inl (cI, 30, .inl f6))] H_111 := by rw [eH9]; exact hP
                          have hS1 : va_S A s.heap H_111 lc_112 := by rw [eH9, eL9]; exact hS
                          clear hP hS eH9 eL9
                          have hP := hP1
                          have hS := hS1
                          clear hP1 hS1
                          have hl1 : lv_has ls 6 [(3, .int (nI 0)), (5, .int (nI k6)), (1, .long (dgk KA TA 0 dd7)), (4, .ref r6), (0, .ref gp)] := hl
                          clear hl
                          have hl := hl1
                          clear hl1
                          have hl0 := lv_sub (l' := [(3, .int (nI 0)), (1, .long (dgk KA TA 0 dd7)), (0, .ref gp)]) hl [0, 2, 4] rfl
                          clear hl
                          have pk0 : 0 ≤ 30 ∧ va_P G vwCl [(aa, .inl (cI, 30, .inl KA)), (ta, .inl (cI, 30, .inl TA)), (gp, .inr (2, [.ref sh, .ref r5, .ref r6, .ref aa, .ref ta, .int nA, .int nH, .int nP, .int nM, .ref ts, .ref t5])), (sh, .inr (1, [.ref r1, .ref r2, .ref r3, .ref r4, .int (nI rc), .int (nI bo), .int lv])), (r1, .inr (0, [.ref j1, .int (nI L1.length)])), (j1, .inl (cI, 30, .inl f1)), (r2, .inr (0, [.ref j2, .int (nI L2.length)])), (j2, .inl (cI, 30, .inl f2)), (r3, .inr (0, [.ref j3, .int (nI L3.length)])), (j3, .inl (cI, 30, .inl f3)), (r4, .inr (0, [.ref j4, .int (nI L4.length)])), (j4, .inl (cI, 30, .inl f4)), (r5, .inr (0, [.ref j5, .int (nI P.length)])), (j5, .inl (cI, 30, .inl f5)), (r6, .inr (0, [.ref j6, .int (nI M.length)])), (j6, .inl (cI, 30, .inl f6))] H_111 ∧ va_D A [(aa, .inl (cI, 30, .inl KA)), (ta, .inl (cI, 30, .inl TA)), (gp, .inr (2, [.ref sh, .ref r5, .ref r6, .ref aa, .ref ta, .int nA, .int nH, .int nP, .int nM, .ref ts, .ref t5])), (sh, .inr (1, [.ref r1, .ref r2, .ref r3, .ref r4, .int (nI rc), .int (nI bo), .int lv])), (r1, .inr (0, [.ref j1, .int (nI L1.length)])), (j1, .inl (cI, 30, .inl f1)), (r2, .inr (0, [.ref j2, .int (nI L2.length)])), (j2, .inl (cI, 30, .inl f2)), (r3, .inr (0, [.ref j3, .int (nI L3.length)])), (j3, .inl (cI, 30, .inl f3)), (r4, .inr (0, [.ref j4, .int (nI L4.length)])), (j4, .inl (cI, 30, .inl f4)), (r5, .inr (0, [.ref j5, .int (nI P.length)])), (j5, .inl (cI, 30, .inl f5)), (r6, .inr (0, [.ref j6, .int (nI M.length)])), (j6, .inl (cI, 30, .inl f6))] ∧ va_S A s.heap H_111 lc_112 ∧ lv_has ls 6 [(3, .int (nI 0)), (1, .long (dgk KA TA 0 dd7)), (0, .ref gp)] := ⟨(by decide), hP, hD, hS, hl0⟩
                          clear hP hD hS hl0 
                          obtain ⟨kz, ez⟩ : ∃ kz : Nat, kz = 0 := ⟨0, rfl⟩
                          have pk1 : 30 - kz < (30 - 0) + 1 ∧ kz ≤ 30 ∧ va_P G vwCl [(aa, .inl (cI, 30, .inl KA)), (ta, .inl (cI, 30, .inl TA)), (gp, .inr (2, [.ref sh, .ref r5, .ref r6, .ref aa, .ref ta, .int nA, .int nH, .int nP, .int nM, .ref ts, .ref t5])), (sh, .inr (1, [.ref r1, .ref r2, .ref r3, .ref r4, .int (nI rc), .int (nI bo), .int lv])), (r1, .inr (0, [.ref j1, .int (nI L1.length)])), (j1, .inl (cI, 30, .inl f1)), (r2, .inr (0, [.ref j2, .int (nI L2.length)])), (j2, .inl (cI, 30, .inl f2)), (r3, .inr (0, [.ref j3, .int (nI L3.length)])), (j3, .inl (cI, 30, .inl f3)), (r4, .inr (0, [.ref j4, .int (nI L4.length)])), (j4, .inl (cI, 30, .inl f4)), (r5, .inr (0, [.ref j5, .int (nI P.length)])), (j5, .inl (cI, 30, .inl f5)), (r6, .inr (0, [.ref j6, .int (nI M.length)])), (j6, .inl (cI, 30, .inl f6))] H_111 ∧ va_D A [(aa, .inl (cI, 30, .inl KA)), (ta, .inl (cI, 30, .inl TA)), (gp, .inr (2, [.ref sh, .ref r5, .ref r6, .ref aa, .ref ta, .int nA, .int nH, .int nP, .int nM, .ref ts, .ref t5])), (sh, .inr (1, [.ref r1, .ref r2, .ref r3, .ref r4, .int (nI rc), .int (nI bo), .int lv])), (r1, .inr (0, [.ref j1, .int (nI L1.length)])), (j1, .inl (cI, 30, .inl f1)), (r2, .inr (0, [.ref j2, .int (nI L2.length)])), (j2, .inl (cI, 30, .inl f2)), (r3, .inr (0, [.ref j3, .int (nI L3.length)])), (j3, .inl (cI, 30, .inl f3)), (r4, .inr (0, [.ref j4, .int (nI L4.length)])), (j4, .inl (cI, 30, .inl f4)), (r5, .inr (0, [.ref j5, .int (nI P.length)])), (j5, .inl (cI, 30, .inl f5)), (r6, .inr (0, [.ref j6, .int (nI M.length)])), (j6, .inl (cI, 30, .inl f6))] ∧ va_S A s.heap H_111 lc_112 ∧ lv_has ls 6 [(3, .int (nI kz)), (1, .long (dgk KA TA kz dd7)), (0, .ref gp)] := ⟨by omega, by rw [ez]; exact pk0⟩
                          clear pk0 ez
                          generalize (30 - 0) + 1 = nz at pk1
                          induction nz generalizing kz ls H_111 lc_112 with
                          | zero => exact absurd pk1.1 (Nat.not_lt_zero _)
                          | succ nz ihz =>
                            obtain ⟨hnz, hkz, hP, hD, hS, hl⟩ := pk1
                            refine lv_iload_n hx hb dX2_digest_93 rfl (lv_at hl 0 rfl) ?_
                            refine lv_bipush (v := (nI 30)) hx hb dX2_digest_94 (by decide +kernel) ?_
                            refine g_icmp_ge (tgt := 137) hx hb dX2_digest_96 (by decide) (by omega) (by decide) (fun c_113 => ?_) (fun c_113 => ?_)
                            · refine lv_lload_n hx hb dX2_digest_137 rfl (lv_at hl 1 rfl) ?_
                              have ez : kz = 30 := by omega
                              have e9 : (dgk KA TA kz dd7) = dgs rc M ((L1, L2, L3, L4), P, bo, nA, nH, nP, nM, KA, TA) := by rw [ez, e_dd7, e_dd6, e_dd5, e_dd4, e_dd3, e_dd2, e_dd1]; rfl
                              have hP9 := hP.sub (ws' := [(gp, .inr (2, [.ref sh, .ref r5, .ref r6, .ref aa, .ref ta, .int nA, .int nH, .int nP, .int nM, .ref ts, .ref t5])), (sh, .inr (1, [.ref r1, .ref r2, .ref r3, .ref r4, .int (nI rc), .int (nI bo), .int lv])), (r1, .inr (0, [.ref j1, .int (nI L1.length)])), (j1, .inl (cI, 30, .inl f1)), (r2, .inr (0, [.ref j2, .int (nI L2.length)])), (j2, .inl (cI, 30, .inl f2)), (r3, .inr (0, [.ref j3, .int (nI L3.length)])), (j3, .inl (cI, 30, .inl f3)), (r4, .inr (0, [.ref j4, .int (nI L4.length)])), (j4, .inl (cI, 30, .inl f4)), (r5, .inr (0, [.ref j5, .int (nI P.length)])), (j5, .inl (cI, 30, .inl f5)), (r6, .inr (0, [.ref j6, .int (nI M.length)])), (j6, .inl (cI, 30, .inl f6)), (aa, .inl (cI, 30, .inl KA)), (ta, .inl (cI, 30, .inl TA))]) [2, 3, 4, 5, 6, 7, 8, 9, 10, 11, 12, 13, 14, 15, 0, 1] rfl
                              have hD9 := hD.sub (ws' := [(gp, .inr (2, [.ref sh, .ref r5, .ref r6, .ref aa, .ref ta, .int nA, .int nH, .int nP, .int nM, .ref ts, .ref t5])), (sh, .inr (1, [.ref r1, .ref r2, .ref r3, .ref r4, .int (nI rc), .int (nI bo), .int lv])), (r1, .inr (0, [.ref j1, .int (nI L1.length)])), (j1, .inl (cI, 30, .inl f1)), (r2, .inr (0, [.ref j2, .int (nI L2.length)])), (j2, .inl (cI, 30, .inl f2)), (r3, .inr (0, [.ref j3, .int (nI L3.length)])), (j3, .inl (cI, 30, .inl f3)), (r4, .inr (0, [.ref j4, .int (nI L4.length)])), (j4, .inl (cI, 30, .inl f4)), (r5, .inr (0, [.ref j5, .int (nI P.length)])), (j5, .inl (cI, 30, .inl f5)), (r6, .inr (0, [.ref j6, .int (nI M.length)])), (j6, .inl (cI, 30, .inl f6)), (aa, .inl (cI, 30, .inl KA)), (ta, .inl (cI, 30, .inl TA))]) [2, 3, 4, 5, 6, 7, 8, 9, 10, 11, 12, 13, 14, 15, 0, 1] (by decide) rfl
                              exact W.lret (v := (dgk KA TA kz dd7)) hx hb hr (fun t ht hW => ⟨⟨(dgk KA TA kz dd7), (), rfl, e9, g_at hP9 hK hD9 ht hW⟩, hS.F ht⟩) hS.2.2 dX2_digest_138
                            · refine lv_lload_n hx hb dX2_digest_99 rfl (lv_at hl 1 rfl) ?_
                              refine lv_ldc2 (v := 31) hx hb hown (hts (.constantLong RX2 165 (31)) (by decide +kernel)) dX2_digest_100 ?_
                              refine lv_lmul hx hb dX2_digest_103 ?_
                              refine lv_aload_n hx hb dX2_digest_104 rfl (lv_at hl 2 rfl) ?_
                              refine va_get (D := G) (ci := 2) (v := .ref aa) (C := RX2) (T := TX2) (N := 11) hx hb hts iX2_digest_X2 hown hK hP 2 rfl rfl 3 (by decide) (hts (.fieldLink RX2 28 "GhostPantry" "askedOf" "[I") (by decide +kernel)) (fun _ h9 => h9) rfl dX2_digest_105 ?_
                              refine lv_iload_n hx hb dX2_digest_108 rfl (lv_at hl 0 rfl) ?_
                              have hPc := hP.sub (ws' := [(aa, .inl (cI, 30, .inl KA))]) [0] rfl
                              have hDc := hD.sub (ws' := [(aa, .inl (cI, 30, .inl KA))]) [0] (by decide) rfl
                              have hKc := hK.sub (tys' := [(cI, .int)]) [0] rfl
                              have hFc := va_free (wc := [(aa, .inl (cI, 30, .inl KA))]) hD hS hA [0] rfl
                              refine va_calli (va_runS (As := [.ref aa, .int (nI kz)]) (rest := [.long ((dgk KA TA kz dd7) * 31)]) ⟨hx, hb, hml, hown, hts⟩ (c_X2_tallyOf l G cI aa KA kz (by omega) H_111.size) (va_cwS 2 hts gX2_digest_X2_tallyOf rfl rfl rfl (by decide +kernel) ⟨Nat.le_of_ble_eq_true rfl, Nat.le_of_ble_eq_true rfl⟩) (g_preS (As := [.ref aa, .int (nI kz)]) hPc hKc hDc) rfl rfl hl.1 rfl (lv_room (Nat.le_of_ble_eq_true rfl)) dX2_digest_109 ⟨(Nat.le_of_ble_eq_true rfl), (Nat.le_of_ble_eq_true rfl)⟩) hS (fun q _ h => hFc q h) hFc (fun r_115 u_116 t H_114 locs ht hvm hw hB hz1 hk1 hS1 => ?_)
                              have hw := hw.symm
                              subst hw
                              obtain ⟨hP1, hD1⟩ := g_join (wc := [(aa, .inl (cI, 30, .inl KA))]) (wr := [(ta, .inl (cI, 30, .inl TA)), (gp, .inr (2, [.ref sh, .ref r5, .ref r6, .ref aa, .ref ta, .int nA, .int nH, .int nP, .int nM, .ref ts, .ref t5])), (sh, .inr (1, [.ref r1, .ref r2, .ref r3, .ref r4, .int (nI rc), .int (nI bo), .int lv])), (r1, .inr (0, [.ref j1, .int (nI L1.length)])), (j1, .inl (cI, 30, .inl f1)), (r2, .inr (0, [.ref j2, .int (nI L2.length)])), (j2, .inl (cI, 30, .inl f2)), (r3, .inr (0, [.ref j3, .int (nI L3.length)])), (j3, .inl (cI, 30, .inl f3)), (r4, .inr (0, [.ref j4, .int (nI L4.length)])), (j4, .inl (cI, 30, .inl f4)), (r5, .inr (0, [.ref j5, .int (nI P.length)])), (j5, .inl (cI, 30, .inl f5)), (r6, .inr (0, [.ref j6, .int (nI M.length)])), (j6, .inl (cI, 30, .inl f6))]) (w1 := [(aa, .inl (cI, 30, .inl KA))]) hP hD [0] [1, 2, 3, 4, 5, 6, 7, 8, 9, 10, 11, 12, 13, 14, 15] rfl rfl (by decide) (by decide) ht hk1 hFc hB
                              clear hB hk1 hz1 hvm ht hPc hDc hKc hFc
                              clear hP hD hS
                              have hP : va_P G vwCl [(ta, .inl (cI, 30, .inl TA)), (gp, .inr (2, [.ref sh, .ref r5, .ref r6, .ref aa, .ref ta, .int nA, .int nH, .int nP, .int nM, .ref ts, .ref t5])), (sh, .inr (1, [.ref r1, .ref r2, .ref r3, .ref r4, .int (nI rc), .int (nI bo), .int lv])), (r1, .inr (0, [.ref j1, .int (nI L1.length)])), (j1, .inl (cI, 30, .inl f1)), (r2, .inr (0, [.ref j2, .int (nI L2.length)])), (j2, .inl (cI, 30, .inl f2)), (r3, .inr (0, [.ref j3, .int (nI L3.length)])), (j3, .inl (cI, 30, .inl f3)), (r4, .inr (0, [.ref j4, .int (nI L4.length)])), (j4, .inl (cI, 30, .inl f4)), (r5, .inr (0, [.ref j5, .int (nI P.length)])), (j5, .inl (cI, 30, .inl f5)), (r6, .inr (0, [.ref j6, .int (nI M.length)])), (j6, .inl (cI, 30, .inl f6)), (aa, .inl (cI, 30, .inl KA))] H_114 := hP1
                              have hD : va_D A [(ta, .inl (cI, 30, .inl TA)), (gp, .inr (2, [.ref sh, .ref r5, .ref r6, .ref aa, .ref ta, .int nA, .int nH, .int nP, .int nM, .ref ts, .ref t5])), (sh, .inr (1, [.ref r1, .ref r2, .ref r3, .ref r4, .int (nI rc), .int (nI bo), .int lv])), (r1, .inr (0, [.ref j1, .int (nI L1.length)])), (j1, .inl (cI, 30, .inl f1)), (r2, .inr (0, [.ref j2, .int (nI L2.length)])), (j2, .inl (cI, 30, .inl f2)), (r3, .inr (0, [.ref j3, .int (nI L3.length)])), (j3, .inl (cI, 30, .inl f3)), (r4, .inr (0, [.ref j4, .int (nI L4.length)])), (j4, .inl (cI, 30, .inl f4)), (r5, .inr (0, [.ref j5, .int (nI P.length)])), (j5, .inl (cI, 30, .inl f5)), (r6, .inr (0, [.ref j6, .int (nI M.length)])), (j6, .inl (cI, 30, .inl f6)), (aa, .inl (cI, 30, .inl KA))] := hD1
                              have hS := hS1
                              clear hP1 hD1 hS1
                              refine lv_i2l hx hb dX2_digest_112 rfl ?_
                              refine lv_ladd hx hb dX2_digest_113 ?_
                              refine lv_lstore_n (lv' := [(1, .long (dg (dgk KA TA kz dd7) ((KA kz)))), (3, .int (nI kz)), (0, .ref gp)]) hx hb dX2_digest_114 rfl hl (by decide) rfl (fun ls hl1 => ?_)
                              clear hl
                              have hl := hl1
                              clear hl1
                              refine lv_lload_n hx hb dX2_digest_115 rfl (lv_at hl 0 rfl) ?_
                              refine lv_ldc2 (v := 31) hx hb hown (hts (.constantLong RX2 165 (31)) (by decide +kernel)) dX2_digest_116 ?_
                              refine lv_lmul hx hb dX2_digest_119 ?_
                              refine lv_aload_n hx hb dX2_digest_120 rfl (lv_at hl 2 rfl) ?_
                              refine va_get (D := G) (ci := 2) (v := .ref ta) (C := RX2) (T := TX2) (N := 11) hx hb hts iX2_digest_X2 hown hK hP 1 rfl rfl 4 (by decide) (hts (.fieldLink RX2 32 "GhostPantry" "thereOf" "[I") (by decide +kernel)) (fun _ h9 => h9) rfl dX2_digest_121 ?_
                              refine lv_iload_n hx hb dX2_digest_124 rfl (lv_at hl 1 rfl) ?_
                              have hPc := hP.sub (ws' := [(ta, .inl (cI, 30, .inl TA))]) [0] rfl
                              have hDc := hD.sub (ws' := [(ta, .inl (cI, 30, .inl TA))]) [0] (by decide) rfl
                              have hKc := hK.sub (tys' := [(cI, .int)]) [0] rfl
                              have hFc := va_free (wc := [(ta, .inl (cI, 30, .inl TA))]) hD hS hA [0] rfl
                              refine va_calli (va_runS (As := [.ref ta, .int (nI kz)]) (rest := [.long ((dg (dgk KA TA kz dd7) ((KA kz))) * 31)]) ⟨hx, hb, hml, hown, hts⟩ (c_X2_tallyOf l G cI ta TA kz (by omega) H_114.size) (va_cwS 2 hts gX2_digest_X2_tallyOf rfl rfl rfl (by decide +kernel) ⟨Nat.le_of_ble_eq_true rfl, Nat.le_of_ble_eq_true rfl⟩) (g_preS (As := [.ref ta, .int (nI kz)]) hPc hKc hDc) rfl rfl hl.1 rfl (lv_room (Nat.le_of_ble_eq_true rfl)) dX2_digest_125 ⟨(Nat.le_of_ble_eq_true rfl), (Nat.le_of_ble_eq_true rfl)⟩) hS (fun q _ h => hFc q h) hFc (fun r_118 u_119 t H_117 locs ht hvm hw hB hz1 hk1 hS1 => ?_)
                              have hw := hw.symm
                              subst hw
                              obtain ⟨hP1, hD1⟩ := g_join (wc := [(ta, .inl (cI, 30, .inl TA))]) (wr := [(gp, .inr (2, [.ref sh, .ref r5, .ref r6, .ref aa, .ref ta, .int nA, .int nH, .int nP, .int nM, .ref ts, .ref t5])), (sh, .inr (1, [.ref r1, .ref r2, .ref r3, .ref r4, .int (nI rc), .int (nI bo), .int lv])), (r1, .inr (0, [.ref j1, .int (nI L1.length)])), (j1, .inl (cI, 30, .inl f1)), (r2, .inr (0, [.ref j2, .int (nI L2.length)])), (j2, .inl (cI, 30, .inl f2)), (r3, .inr (0, [.ref j3, .int (nI L3.length)])), (j3, .inl (cI, 30, .inl f3)), (r4, .inr (0, [.ref j4, .int (nI L4.length)])), (j4, .inl (cI, 30, .inl f4)), (r5, .inr (0, [.ref j5, .int (nI P.length)])), (j5, .inl (cI, 30, .inl f5)), (r6, .inr (0, [.ref j6, .int (nI M.length)])), (j6, .inl (cI, 30, .inl f6)), (aa, .inl (cI, 30, .inl KA))]) (w1 := [(ta, .inl (cI, 30, .inl TA))]) hP hD [0] [1, 2, 3, 4, 5, 6, 7, 8, 9, 10, 11, 12, 13, 14, 15] rfl rfl (by decide) (by decide) ht hk1 hFc hB
                              clear hB hk1 hz1 hvm ht hPc hDc hKc hFc
                              clear hP hD hS
                              have hP : va_P G vwCl [(gp, .inr (2, [.ref sh, .ref r5, .ref r6, .ref aa, .ref ta, .int nA, .int nH, .int nP, .int nM, .ref ts, .ref t5])), (sh, .inr (1, [.ref r1, .ref r2, .ref r3, .ref r4, .int (nI rc), .int (nI bo), .int lv])), (r1, .inr (0, [.ref j1, .int (nI L1.length)])), (j1, .inl (cI, 30, .inl f1)), (r2, .inr (0, [.ref j2, .int (nI L2.length)])), (j2, .inl (cI, 30, .inl f2)), (r3, .inr (0, [.ref j3, .int (nI L3.length)])), (j3, .inl (cI, 30, .inl f3)), (r4, .inr (0, [.ref j4, .int (nI L4.length)])), (j4, .inl (cI, 30, .inl f4)), (r5, .inr (0, [.ref j5, .int (nI P.length)])), (j5, .inl (cI, 30, .inl f5)), (r6, .inr (0, [.ref j6, .int (nI M.length)])), (j6, .inl (cI, 30, .inl f6)), (aa, .inl (cI, 30, .inl KA)), (ta, .inl (cI, 30, .inl TA))] H_117 := hP1
                              have hD : va_D A [(gp, .inr (2, [.ref sh, .ref r5, .ref r6, .ref aa, .ref ta, .int nA, .int nH, .int nP, .int nM, .ref ts, .ref t5])), (sh, .inr (1, [.ref r1, .ref r2, .ref r3, .ref r4, .int (nI rc), .int (nI bo), .int lv])), (r1, .inr (0, [.ref j1, .int (nI L1.length)])), (j1, .inl (cI, 30, .inl f1)), (r2, .inr (0, [.ref j2, .int (nI L2.length)])), (j2, .inl (cI, 30, .inl f2)), (r3, .inr (0, [.ref j3, .int (nI L3.length)])), (j3, .inl (cI, 30, .inl f3)), (r4, .inr (0, [.ref j4, .int (nI L4.length)])), (j4, .inl (cI, 30, .inl f4)), (r5, .inr (0, [.ref j5, .int (nI P.length)])), (j5, .inl (cI, 30, .inl f5)), (r6, .inr (0, [.ref j6, .int (nI M.length)])), (j6, .inl (cI, 30, .inl f6)), (aa, .inl (cI, 30, .inl KA)), (ta, .inl (cI, 30, .inl TA))] := hD1
                              have hS := hS1
                              clear hP1 hD1 hS1
                              refine lv_i2l hx hb dX2_digest_128 rfl ?_
                              refine lv_ladd hx hb dX2_digest_129 ?_
                              refine lv_lstore_n (lv' := [(1, .long (dg (dg (dgk KA TA kz dd7) ((KA kz))) ((TA kz)))), (3, .int (nI kz)), (0, .ref gp)]) hx hb dX2_digest_130 rfl hl (by decide) rfl (fun ls hl1 => ?_)
                              clear hl
                              have hl := hl1
                              clear hl1
                              refine lv_iinc (v := (nI (kz + 1))) (lv' := [(3, .int (nI (kz + 1))), (1, .long (dg (dg (dgk KA TA kz dd7) ((KA kz))) ((TA kz)))), (0, .ref gp)]) hx hb dX2_digest_131 hl (k := 1) rfl (nI_1 _) (by decide) rfl (fun ls hl => ?_)
                              refine lv_goto (tgt := 93) hx hb dX2_digest_134 (by decide) ?_
                              have hl1 : lv_has ls 6 [(3, .int (nI (kz + 1))), (1, .long (dgk KA TA (kz + 1) dd7)), (0, .ref gp)] := hl
                              clear hl
                              have hl := hl1
                              clear hl1
                              have hP1 := hP.sub (ws' := [(aa, .inl (cI, 30, .inl KA)), (ta, .inl (cI, 30, .inl TA)), (gp, .inr (2, [.ref sh, .ref r5, .ref r6, .ref aa, .ref ta, .int nA, .int nH, .int nP, .int nM, .ref ts, .ref t5])), (sh, .inr (1, [.ref r1, .ref r2, .ref r3, .ref r4, .int (nI rc), .int (nI bo), .int lv])), (r1, .inr (0, [.ref j1, .int (nI L1.length)])), (j1, .inl (cI, 30, .inl f1)), (r2, .inr (0, [.ref j2, .int (nI L2.length)])), (j2, .inl (cI, 30, .inl f2)), (r3, .inr (0, [.ref j3, .int (nI L3.length)])), (j3, .inl (cI, 30, .inl f3)), (r4, .inr (0, [.ref j4, .int (nI L4.length)])), (j4, .inl (cI, 30, .inl f4)), (r5, .inr (0, [.ref j5, .int (nI P.length)])), (j5, .inl (cI, 30, .inl f5)), (r6, .inr (0, [.ref j6, .int (nI M.length)])), (j6, .inl (cI, 30, .inl f6))]) [14, 15, 0, 1, 2, 3, 4, 5, 6, 7, 8, 9, 10, 11, 12, 13] rfl
                              have hD1 := hD.sub (ws' := [(aa, .inl (cI, 30, .inl KA)), (ta, .inl (cI, 30, .inl TA)), (gp, .inr (2, [.ref sh, .ref r5, .ref r6, .ref aa, .ref ta, .int nA, .int nH, .int nP, .int nM, .ref ts, .ref t5])), (sh, .inr (1, [.ref r1, .ref r2, .ref r3, .ref r4, .int (nI rc), .int (nI bo), .int lv])), (r1, .inr (0, [.ref j1, .int (nI L1.length)])), (j1, .inl (cI, 30, .inl f1)), (r2, .inr (0, [.ref j2, .int (nI L2.length)])), (j2, .inl (cI, 30, .inl f2)), (r3, .inr (0, [.ref j3, .int (nI L3.length)])), (j3, .inl (cI, 30, .inl f3)), (r4, .inr (0, [.ref j4, .int (nI L4.length)])), (j4, .inl (cI, 30, .inl f4)), (r5, .inr (0, [.ref j5, .int (nI P.length)])), (j5, .inl (cI, 30, .inl f5)), (r6, .inr (0, [.ref j6, .int (nI M.length)])), (j6, .inl (cI, 30, .inl f6))]) [14, 15, 0, 1, 2, 3, 4, 5, 6, 7, 8, 9, 10, 11, 12, 13] (by decide) rfl
                              clear hP hD
                              have hP := hP1
                              have hD := hD1
                              clear hP1 hD1
                              have hl9 := lv_sub (l' := [(3, .int (nI (kz + 1))), (1, .long (dgk KA TA (kz + 1) dd7)), (0, .ref gp)]) hl [0, 1, 2] rfl
                              exact ihz _ _ _ _ ⟨by omega, (by omega), hP, hD, hS, hl9⟩
                        · refine lv_lload_n hx hb dX2_digest_64 rfl (lv_at hl 1 rfl) ?_
                          refine lv_ldc2 (v := 31) hx hb hown (hts (.constantLong RX2 165 (31)) (by decide +kernel)) dX2_digest_65 ?_
                          refine lv_lmul hx hb dX2_digest_68 ?_
                          refine lv_aload hx hb dX2_digest_69 (lv_at hl 2 rfl) ?_
                          refine lv_iload hx hb dX2_digest_71 (lv_at hl 0 rfl) ?_
                          have hPc := hP.sub (ws' := [(r6, .inr (0, [.ref j6, .int (nI M.length)])), (j6, .inl (cI, 30, .inl f6))]) [14, 15] rfl
                          have hDc := hD.sub (ws' := [(r6, .inr (0, [.ref j6, .int (nI M.length)])), (j6, .inl (cI, 30, .inl f6))]) [14, 15] (by decide) rfl
                          have hKc := hK.sub (tys' := [(cI, .int)]) [0] rfl
                          have hFc := va_free (wc := [(r6, .inr (0, [.ref j6, .int (nI M.length)])), (j6, .inl (cI, 30, .inl f6))]) hD hS hA [14, 15] rfl
                          refine va_calli (va_runV (As := [.int (nI k6)]) (rest := [.long ((dgl dd6 (M.take k6)) * 31)]) ⟨hx, hb, hml, hown, hts⟩ (c_X0_jarAt l G cI r6 j6 f6 M hR6 (by omega) k6 (by first | omega | (simp only [List.length_cons, List.length_dropLast, List.length_append] at *; omega)) H_106.size) (cwV 1 hts gX2_digest_X0_jarAt rfl rfl rfl (by decide +kernel) ⟨Nat.le_of_ble_eq_true rfl, Nat.le_of_ble_eq_true rfl⟩) (g_preV (As := [.int (nI k6)]) hPc hKc hDc 0 rfl rfl) rfl rfl hl.1 rfl (lv_room (Nat.le_of_ble_eq_true rfl)) dX2_digest_73 ⟨(Nat.le_of_ble_eq_true rfl), (Nat.le_of_ble_eq_true rfl)⟩) hS (fun q _ h => hFc q h) hFc (fun r_121 u_122 t H_120 locs ht hvm hw hB hz1 hk1 hS1 => ?_)
                          subst hw
                          obtain ⟨hP1, hD1⟩ := g_join (wc := [(r6, .inr (0, [.ref j6, .int (nI M.length)])), (j6, .inl (cI, 30, .inl f6))]) (wr := [(aa, .inl (cI, 30, .inl KA)), (ta, .inl (cI, 30, .inl TA)), (gp, .inr (2, [.ref sh, .ref r5, .ref r6, .ref aa, .ref ta, .int nA, .int nH, .int nP, .int nM, .ref ts, .ref t5])), (sh, .inr (1, [.ref r1, .ref r2, .ref r3, .ref r4, .int (nI rc), .int (nI bo), .int lv])), (r1, .inr (0, [.ref j1, .int (nI L1.length)])), (j1, .inl (cI, 30, .inl f1)), (r2, .inr (0, [.ref j2, .int (nI L2.length)])), (j2, .inl (cI, 30, .inl f2)), (r3, .inr (0, [.ref j3, .int (nI L3.length)])), (j3, .inl (cI, 30, .inl f3)), (r4, .inr (0, [.ref j4, .int (nI L4.length)])), (j4, .inl (cI, 30, .inl f4)), (r5, .inr (0, [.ref j5, .int (nI P.length)])), (j5, .inl (cI, 30, .inl f5))]) (w1 := [(r6, .inr (0, [.ref j6, .int (nI M.length)])), (j6, .inl (cI, 30, .inl f6))]) hP hD [14, 15] [0, 1, 2, 3, 4, 5, 6, 7, 8, 9, 10, 11, 12, 13] rfl rfl (by decide) (by decide) ht hk1 hFc hB
                          clear hB hk1 hz1 hvm ht hPc hDc hKc hFc
                          clear hP hD hS
                          have hP : va_P G vwCl [(aa, .inl (cI, 30, .inl KA)), (ta, .inl (cI, 30, .inl TA)), (gp, .inr (2, [.ref sh, .ref r5, .ref r6, .ref aa, .ref ta, .int nA, .int nH, .int nP, .int nM, .ref ts, .ref t5])), (sh, .inr (1, [.ref r1, .ref r2, .ref r3, .ref r4, .int (nI rc), .int (nI bo), .int lv])), (r1, .inr (0, [.ref j1, .int (nI L1.length)])), (j1, .inl (cI, 30, .inl f1)), (r2, .inr (0, [.ref j2, .int (nI L2.length)])), (j2, .inl (cI, 30, .inl f2)), (r3, .inr (0, [.ref j3, .int (nI L3.length)])), (j3, .inl (cI, 30, .inl f3)), (r4, .inr (0, [.ref j4, .int (nI L4.length)])), (j4, .inl (cI, 30, .inl f4)), (r5, .inr (0, [.ref j5, .int (nI P.length)])), (j5, .inl (cI, 30, .inl f5)), (r6, .inr (0, [.ref j6, .int (nI M.length)])), (j6, .inl (cI, 30, .inl f6))] H_120 := hP1
                          have hD : va_D A [(aa, .inl (cI, 30, .inl KA)), (ta, .inl (cI, 30, .inl TA)), (gp, .inr (2, [.ref sh, .ref r5, .ref r6, .ref aa, .ref ta, .int nA, .int nH, .int nP, .int nM, .ref ts, .ref t5])), (sh, .inr (1, [.ref r1, .ref r2, .ref r3, .ref r4, .int (nI rc), .int (nI bo), .int lv])), (r1, .inr (0, [.ref j1, .int (nI L1.length)])), (j1, .inl (cI, 30, .inl f1)), (r2, .inr (0, [.ref j2, .int (nI L2.length)])), (j2, .inl (cI, 30, .inl f2)), (r3, .inr (0, [.ref j3, .int (nI L3.length)])), (j3, .inl (cI, 30, .inl f3)), (r4, .inr (0, [.ref j4, .int (nI L4.length)])), (j4, .inl (cI, 30, .inl f4)), (r5, .inr (0, [.ref j5, .int (nI P.length)])), (j5, .inl (cI, 30, .inl f5)), (r6, .inr (0, [.ref j6, .int (nI M.length)])), (j6, .inl (cI, 30, .inl f6))] := hD1
                          have hS := hS1
                          clear hP1 hD1 hS1
                          refine lv_i2l hx hb dX2_digest_76 rfl ?_
                          refine lv_ladd hx hb dX2_digest_77 ?_
                          refine lv_lstore_n (lv' := [(1, .long (dg (dgl dd6 (M.take k6)) ((M.getD k6 0)))), (5, .int (nI k6)), (4, .ref r6), (3, .int (nI 6)), (0, .ref gp)]) hx hb dX2_digest_78 rfl hl (by decide) rfl (fun ls hl1 => ?_)
                          clear hl
                          have hl := hl1
                          clear hl1
                          refine lv_iinc (v := (nI (k6 + 1))) (lv' := [(5, .int (nI (k6 + 1))), (1, .long (dg (dgl dd6 (M.take k6)) ((M.getD k6 0)))), (4, .ref r6), (3, .int (nI 6)), (0, .ref gp)]) hx hb dX2_digest_79 hl (k := 1) rfl (nI_1 _) (by decide) rfl (fun ls hl => ?_)
                          refine lv_goto (tgt := 49) hx hb dX2_digest_82 (by decide) ?_
                          have hl1 : lv_has ls 6 [(5, .int (nI (k6 + 1))), (1, .long (dgl dd6 (M.take (k6 + 1)))), (4, .ref r6), (3, .int (nI 6)), (0, .ref gp)] := by rw [← dgl_snoc (by omega)]; exact hl
                          clear hl
                          have hl := hl1
                          clear hl1
                          have hl9 := lv_sub (l' := [(5, .int (nI (k6 + 1))), (1, .long (dgl dd6 (M.take (k6 + 1)))), (4, .ref r6), (3, .int (nI 6)), (0, .ref gp)]) hl [0, 1, 2, 3, 4] rfl
                          exact ihr6 _ _ _ _ ⟨by omega, (by omega), hP, hD, hS, hl9⟩
                    · refine lv_lload_n hx hb dX2_digest_64 rfl (lv_at hl 1 rfl) ?_
                      refine lv_ldc2 (v := 31) hx hb hown (hts (.constantLong RX2 165 (31)) (by decide +kernel)) dX2_digest_65 ?_
                      refine lv_lmul hx hb dX2_digest_68 ?_
                      refine lv_aload hx hb dX2_digest_69 (lv_at hl 2 rfl) ?_
                      refine lv_iload hx hb dX2_digest_71 (lv_at hl 0 rfl) ?_
                      have hPc := hP.sub (ws' := [(r5, .inr (0, [.ref j5, .int (nI P.length)])), (j5, .inl (cI, 30, .inl f5))]) [14, 15] rfl
                      have hDc := hD.sub (ws' := [(r5, .inr (0, [.ref j5, .int (nI P.length)])), (j5, .inl (cI, 30, .inl f5))]) [14, 15] (by decide) rfl
                      have hKc := hK.sub (tys' := [(cI, .int)]) [0] rfl
                      have hFc := va_free (wc := [(r5, .inr (0, [.ref j5, .int (nI P.length)])), (j5, .inl (cI, 30, .inl f5))]) hD hS hA [14, 15] rfl
                      refine va_calli (va_runV (As := [.int (nI k5)]) (rest := [.long ((dgl dd5 (P.take k5)) * 31)]) ⟨hx, hb, hml, hown, hts⟩ (c_X0_jarAt l G cI r5 j5 f5 P hR5 (by omega) k5 (by first | omega | (simp only [List.length_cons, List.length_dropLast, List.length_append] at *; omega)) H_96.size) (cwV 1 hts gX2_digest_X0_jarAt rfl rfl rfl (by decide +kernel) ⟨Nat.le_of_ble_eq_true rfl, Nat.le_of_ble_eq_true rfl⟩) (g_preV (As := [.int (nI k5)]) hPc hKc hDc 0 rfl rfl) rfl rfl hl.1 rfl (lv_room (Nat.le_of_ble_eq_true rfl)) dX2_digest_73 ⟨(Nat.le_of_ble_eq_true rfl), (Nat.le_of_ble_eq_true rfl)⟩) hS (fun q _ h => hFc q h) hFc (fun r_124 u_125 t H_123 locs ht hvm hw hB hz1 hk1 hS1 => ?_)
                      subst hw
                      obtain ⟨hP1, hD1⟩ := g_join (wc := [(r5, .inr (0, [.ref j5, .int (nI P.length)])), (j5, .inl (cI, 30, .inl f5))]) (wr := [(aa, .inl (cI, 30, .inl KA)), (ta, .inl (cI, 30, .inl TA)), (gp, .inr (2, [.ref sh, .ref r5, .ref r6, .ref aa, .ref ta, .int nA, .int nH, .int nP, .int nM, .ref ts, .ref t5])), (sh, .inr (1, [.ref r1, .ref r2, .ref r3, .ref r4, .int (nI rc), .int (nI bo), .int lv])), (r1, .inr (0, [.ref j1, .int (nI L1.length)])), (j1, .inl (cI, 30, .inl f1)), (r2, .inr (0, [.ref j2, .int (nI L2.length)])), (j2, .inl (cI, 30, .inl f2)), (r3, .inr (0, [.ref j3, .int (nI L3.length)])), (j3, .inl (cI, 30, .inl f3)), (r4, .inr (0, [.ref j4, .int (nI L4.length)])), (j4, .inl (cI, 30, .inl f4)), (r6, .inr (0, [.ref j6, .int (nI M.length)])), (j6, .inl (cI, 30, .inl f6))]) (w1 := [(r5, .inr (0, [.ref j5, .int (nI P.length)])), (j5, .inl (cI, 30, .inl f5))]) hP hD [14, 15] [0, 1, 2, 3, 4, 5, 6, 7, 8, 9, 10, 11, 12, 13] rfl rfl (by decide) (by decide) ht hk1 hFc hB
                      clear hB hk1 hz1 hvm ht hPc hDc hKc hFc
                      clear hP hD hS
                      have hP : va_P G vwCl [(aa, .inl (cI, 30, .inl KA)), (ta, .inl (cI, 30, .inl TA)), (gp, .inr (2, [.ref sh, .ref r5, .ref r6, .ref aa, .ref ta, .int nA, .int nH, .int nP, .int nM, .ref ts, .ref t5])), (sh, .inr (1, [.ref r1, .ref r2, .ref r3, .ref r4, .int (nI rc), .int (nI bo), .int lv])), (r1, .inr (0, [.ref j1, .int (nI L1.length)])), (j1, .inl (cI, 30, .inl f1)), (r2, .inr (0, [.ref j2, .int (nI L2.length)])), (j2, .inl (cI, 30, .inl f2)), (r3, .inr (0, [.ref j3, .int (nI L3.length)])), (j3, .inl (cI, 30, .inl f3)), (r4, .inr (0, [.ref j4, .int (nI L4.length)])), (j4, .inl (cI, 30, .inl f4)), (r6, .inr (0, [.ref j6, .int (nI M.length)])), (j6, .inl (cI, 30, .inl f6)), (r5, .inr (0, [.ref j5, .int (nI P.length)])), (j5, .inl (cI, 30, .inl f5))] H_123 := hP1
                      have hD : va_D A [(aa, .inl (cI, 30, .inl KA)), (ta, .inl (cI, 30, .inl TA)), (gp, .inr (2, [.ref sh, .ref r5, .ref r6, .ref aa, .ref ta, .int nA, .int nH, .int nP, .int nM, .ref ts, .ref t5])), (sh, .inr (1, [.ref r1, .ref r2, .ref r3, .ref r4, .int (nI rc), .int (nI bo), .int lv])), (r1, .inr (0, [.ref j1, .int (nI L1.length)])), (j1, .inl (cI, 30, .inl f1)), (r2, .inr (0, [.ref j2, .int (nI L2.length)])), (j2, .inl (cI, 30, .inl f2)), (r3, .inr (0, [.ref j3, .int (nI L3.length)])), (j3, .inl (cI, 30, .inl f3)), (r4, .inr (0, [.ref j4, .int (nI L4.length)])), (j4, .inl (cI, 30, .inl f4)), (r6, .inr (0, [.ref j6, .int (nI M.length)])), (j6, .inl (cI, 30, .inl f6)), (r5, .inr (0, [.ref j5, .int (nI P.length)])), (j5, .inl (cI, 30, .inl f5))] := hD1
                      have hS := hS1
                      clear hP1 hD1 hS1
                      refine lv_i2l hx hb dX2_digest_76 rfl ?_
                      refine lv_ladd hx hb dX2_digest_77 ?_
                      refine lv_lstore_n (lv' := [(1, .long (dg (dgl dd5 (P.take k5)) ((P.getD k5 0)))), (5, .int (nI k5)), (4, .ref r5), (3, .int (nI 5)), (0, .ref gp)]) hx hb dX2_digest_78 rfl hl (by decide) rfl (fun ls hl1 => ?_)
                      clear hl
                      have hl := hl1
                      clear hl1
                      refine lv_iinc (v := (nI (k5 + 1))) (lv' := [(5, .int (nI (k5 + 1))), (1, .long (dg (dgl dd5 (P.take k5)) ((P.getD k5 0)))), (4, .ref r5), (3, .int (nI 5)), (0, .ref gp)]) hx hb dX2_digest_79 hl (k := 1) rfl (nI_1 _) (by decide) rfl (fun ls hl => ?_)
                      refine lv_goto (tgt := 49) hx hb dX2_digest_82 (by decide) ?_
                      have hl1 : lv_has ls 6 [(5, .int (nI (k5 + 1))), (1, .long (dgl dd5 (P.take (k5 + 1)))), (4, .ref r5), (3, .int (nI 5)), (0, .ref gp)] := by rw [← dgl_snoc (by omega)]; exact hl
                      clear hl
                      have hl := hl1
                      clear hl1
                      have hP1 := hP.sub (ws' := [(aa, .inl (cI, 30, .inl KA)), (ta, .inl (cI, 30, .inl TA)), (gp, .inr (2, [.ref sh, .ref r5, .ref r6, .ref aa, .ref ta, .int nA, .int nH, .int nP, .int nM, .ref ts, .ref t5])), (sh, .inr (1, [.ref r1, .ref r2, .ref r3, .ref r4, .int (nI rc), .int (nI bo), .int lv])), (r1, .inr (0, [.ref j1, .int (nI L1.length)])), (j1, .inl (cI, 30, .inl f1)), (r2, .inr (0, [.ref j2, .int (nI L2.length)])), (j2, .inl (cI, 30, .inl f2)), (r3, .inr (0, [.ref j3, .int (nI L3.length)])), (j3, .inl (cI, 30, .inl f3)), (r4, .inr (0, [.ref j4, .int (nI L4.length)])), (j4, .inl (cI, 30, .inl f4)), (r5, .inr (0, [.ref j5, .int (nI P.length)])), (j5, .inl (cI, 30, .inl f5)), (r6, .inr (0, [.ref j6, .int (nI M.length)])), (j6, .inl (cI, 30, .inl f6))]) [0, 1, 2, 3, 4, 5, 6, 7, 8, 9, 10, 11, 14, 15, 12, 13] rfl
                      have hD1 := hD.sub (ws' := [(aa, .inl (cI, 30, .inl KA)), (ta, .inl (cI, 30, .inl TA)), (gp, .inr (2, [.ref sh, .ref r5, .ref r6, .ref aa, .ref ta, .int nA, .int nH, .int nP, .int nM, .ref ts, .ref t5])), (sh, .inr (1, [.ref r1, .ref r2, .ref r3, .ref r4, .int (nI rc), .int (nI bo), .int lv])), (r1, .inr (0, [.ref j1, .int (nI L1.length)])), (j1, .inl (cI, 30, .inl f1)), (r2, .inr (0, [.ref j2, .int (nI L2.length)])), (j2, .inl (cI, 30, .inl f2)), (r3, .inr (0, [.ref j3, .int (nI L3.length)])), (j3, .inl (cI, 30, .inl f3)), (r4, .inr (0, [.ref j4, .int (nI L4.length)])), (j4, .inl (cI, 30, .inl f4)), (r5, .inr (0, [.ref j5, .int (nI P.length)])), (j5, .inl (cI, 30, .inl f5)), (r6, .inr (0, [.ref j6, .int (nI M.length)])), (j6, .inl (cI, 30, .inl f6))]) [0, 1, 2, 3, 4, 5, 6, 7, 8, 9, 10, 11, 14, 15, 12, 13] (by decide) rfl
                      clear hP hD
                      have hP := hP1
                      have hD := hD1
                      clear hP1 hD1
                      have hl9 := lv_sub (l' := [(5, .int (nI (k5 + 1))), (1, .long (dgl dd5 (P.take (k5 + 1)))), (4, .ref r5), (3, .int (nI 5)), (0, .ref gp)]) hl [0, 1, 2, 3, 4] rfl
                      exact ihr5 _ _ _ _ ⟨by omega, (by omega), hP, hD, hS, hl9⟩
                · refine lv_lload_n hx hb dX2_digest_64 rfl (lv_at hl 1 rfl) ?_
                  refine lv_ldc2 (v := 31) hx hb hown (hts (.constantLong RX2 165 (31)) (by decide +kernel)) dX2_digest_65 ?_
                  refine lv_lmul hx hb dX2_digest_68 ?_
                  refine lv_aload hx hb dX2_digest_69 (lv_at hl 2 rfl) ?_
                  refine lv_iload hx hb dX2_digest_71 (lv_at hl 0 rfl) ?_
                  have hPc := hP.sub (ws' := [(r4, .inr (0, [.ref j4, .int (nI L4.length)])), (j4, .inl (cI, 30, .inl f4))]) [14, 15] rfl
                  have hDc := hD.sub (ws' := [(r4, .inr (0, [.ref j4, .int (nI L4.length)])), (j4, .inl (cI, 30, .inl f4))]) [14, 15] (by decide) rfl
                  have hKc := hK.sub (tys' := [(cI, .int)]) [0] rfl
                  have hFc := va_free (wc := [(r4, .inr (0, [.ref j4, .int (nI L4.length)])), (j4, .inl (cI, 30, .inl f4))]) hD hS hA [14, 15] rfl
                  refine va_calli (va_runV (As := [.int (nI k4)]) (rest := [.long ((dgl dd4 (L4.take k4)) * 31)]) ⟨hx, hb, hml, hown, hts⟩ (c_X0_jarAt l G cI r4 j4 f4 L4 hR4 (by omega) k4 (by first | omega | (simp only [List.length_cons, List.length_dropLast, List.length_append] at *; omega)) H_86.size) (cwV 1 hts gX2_digest_X0_jarAt rfl rfl rfl (by decide +kernel) ⟨Nat.le_of_ble_eq_true rfl, Nat.le_of_ble_eq_true rfl⟩) (g_preV (As := [.int (nI k4)]) hPc hKc hDc 0 rfl rfl) rfl rfl hl.1 rfl (lv_room (Nat.le_of_ble_eq_true rfl)) dX2_digest_73 ⟨(Nat.le_of_ble_eq_true rfl), (Nat.le_of_ble_eq_true rfl)⟩) hS (fun q _ h => hFc q h) hFc (fun r_127 u_128 t H_126 locs ht hvm hw hB hz1 hk1 hS1 => ?_)
                  subst hw
                  obtain ⟨hP1, hD1⟩ := g_join (wc := [(r4, .inr (0, [.ref j4, .int (nI L4.length)])), (j4, .inl (cI, 30, .inl f4))]) (wr := [(aa, .inl (cI, 30, .inl KA)), (ta, .inl (cI, 30, .inl TA)), (gp, .inr (2, [.ref sh, .ref r5, .ref r6, .ref aa, .ref ta, .int nA, .int nH, .int nP, .int nM, .ref ts, .ref t5])), (sh, .inr (1, [.ref r1, .ref r2, .ref r3, .ref r4, .int (nI rc), .int (nI bo), .int lv])), (r1, .inr (0, [.ref j1, .int (nI L1.length)])), (j1, .inl (cI, 30, .inl f1)), (r2, .inr (0, [.ref j2, .int (nI L2.length)])), (j2, .inl (cI, 30, .inl f2)), (r3, .inr (0, [.ref j3, .int (nI L3.length)])), (j3, .inl (cI, 30, .inl f3)), (r5, .inr (0, [.ref j5, .int (nI P.length)])), (j5, .inl (cI, 30, .inl f5)), (r6, .inr (0, [.ref j6, .int (nI M.length)])), (j6, .inl (cI, 30, .inl f6))]) (w1 := [(r4, .inr (0, [.ref j4, .int (nI L4.length)])), (j4, .inl (cI, 30, .inl f4))]) hP hD [14, 15] [0, 1, 2, 3, 4, 5, 6, 7, 8, 9, 10, 11, 12, 13] rfl rfl (by decide) (by decide) ht hk1 hFc hB
                  clear hB hk1 hz1 hvm ht hPc hDc hKc hFc
                  clear hP hD hS
                  have hP : va_P G vwCl [(aa, .inl (cI, 30, .inl KA)), (ta, .inl (cI, 30, .inl TA)), (gp, .inr (2, [.ref sh, .ref r5, .ref r6, .ref aa, .ref ta, .int nA, .int nH, .int nP, .int nM, .ref ts, .ref t5])), (sh, .inr (1, [.ref r1, .ref r2, .ref r3, .ref r4, .int (nI rc), .int (nI bo), .int lv])), (r1, .inr (0, [.ref j1, .int (nI L1.length)])), (j1, .inl (cI, 30, .inl f1)), (r2, .inr (0, [.ref j2, .int (nI L2.length)])), (j2, .inl (cI, 30, .inl f2)), (r3, .inr (0, [.ref j3, .int (nI L3.length)])), (j3, .inl (cI, 30, .inl f3)), (r5, .inr (0, [.ref j5, .int (nI P.length)])), (j5, .inl (cI, 30, .inl f5)), (r6, .inr (0, [.ref j6, .int (nI M.length)])), (j6, .inl (cI, 30, .inl f6)), (r4, .inr (0, [.ref j4, .int (nI L4.length)])), (j4, .inl (cI, 30, .inl f4))] H_126 := hP1
                  have hD : va_D A [(aa, .inl (cI, 30, .inl KA)), (ta, .inl (cI, 30, .inl TA)), (gp, .inr (2, [.ref sh, .ref r5, .ref r6, .ref aa, .ref ta, .int nA, .int nH, .int nP, .int nM, .ref ts, .ref t5])), (sh, .inr (1, [.ref r1, .ref r2, .ref r3, .ref r4, .int (nI rc), .int (nI bo), .int lv])), (r1, .inr (0, [.ref j1, .int (nI L1.length)])), (j1, .inl (cI, 30, .inl f1)), (r2, .inr (0, [.ref j2, .int (nI L2.length)])), (j2, .inl (cI, 30, .inl f2)), (r3, .inr (0, [.ref j3, .int (nI L3.length)])), (j3, .inl (cI, 30, .inl f3)), (r5, .inr (0, [.ref j5, .int (nI P.length)])), (j5, .inl (cI, 30, .inl f5)), (r6, .inr (0, [.ref j6, .int (nI M.length)])), (j6, .inl (cI, 30, .inl f6)), (r4, .inr (0, [.ref j4, .int (nI L4.length)])), (j4, .inl (cI, 30, .inl f4))] := hD1
                  have hS := hS1
                  clear hP1 hD1 hS1
                  refine lv_i2l hx hb dX2_digest_76 rfl ?_
                  refine lv_ladd hx hb dX2_digest_77 ?_
                  refine lv_lstore_n (lv' := [(1, .long (dg (dgl dd4 (L4.take k4)) ((L4.getD k4 0)))), (5, .int (nI k4)), (4, .ref r4), (3, .int (nI 4)), (0, .ref gp)]) hx hb dX2_digest_78 rfl hl (by decide) rfl (fun ls hl1 => ?_)
                  clear hl
                  have hl := hl1
                  clear hl1
                  refine lv_iinc (v := (nI (k4 + 1))) (lv' := [(5, .int (nI (k4 + 1))), (1, .long (dg (dgl dd4 (L4.take k4)) ((L4.getD k4 0)))), (4, .ref r4), (3, .int (nI 4)), (0, .ref gp)]) hx hb dX2_digest_79 hl (k := 1) rfl (nI_1 _) (by decide) rfl (fun ls hl => ?_)
                  refine lv_goto (tgt := 49) hx hb dX2_digest_82 (by decide) ?_
                  have hl1 : lv_has ls 6 [(5, .int (nI (k4 + 1))), (1, .long (dgl dd4 (L4.take (k4 + 1)))), (4, .ref r4), (3, .int (nI 4)), (0, .ref gp)] := by rw [← dgl_snoc (by omega)]; exact hl
                  clear hl
                  have hl := hl1
                  clear hl1
                  have hP1 := hP.sub (ws' := [(aa, .inl (cI, 30, .inl KA)), (ta, .inl (cI, 30, .inl TA)), (gp, .inr (2, [.ref sh, .ref r5, .ref r6, .ref aa, .ref ta, .int nA, .int nH, .int nP, .int nM, .ref ts, .ref t5])), (sh, .inr (1, [.ref r1, .ref r2, .ref r3, .ref r4, .int (nI rc), .int (nI bo), .int lv])), (r1, .inr (0, [.ref j1, .int (nI L1.length)])), (j1, .inl (cI, 30, .inl f1)), (r2, .inr (0, [.ref j2, .int (nI L2.length)])), (j2, .inl (cI, 30, .inl f2)), (r3, .inr (0, [.ref j3, .int (nI L3.length)])), (j3, .inl (cI, 30, .inl f3)), (r4, .inr (0, [.ref j4, .int (nI L4.length)])), (j4, .inl (cI, 30, .inl f4)), (r5, .inr (0, [.ref j5, .int (nI P.length)])), (j5, .inl (cI, 30, .inl f5)), (r6, .inr (0, [.ref j6, .int (nI M.length)])), (j6, .inl (cI, 30, .inl f6))]) [0, 1, 2, 3, 4, 5, 6, 7, 8, 9, 14, 15, 10, 11, 12, 13] rfl
                  have hD1 := hD.sub (ws' := [(aa, .inl (cI, 30, .inl KA)), (ta, .inl (cI, 30, .inl TA)), (gp, .inr (2, [.ref sh, .ref r5, .ref r6, .ref aa, .ref ta, .int nA, .int nH, .int nP, .int nM, .ref ts, .ref t5])), (sh, .inr (1, [.ref r1, .ref r2, .ref r3, .ref r4, .int (nI rc), .int (nI bo), .int lv])), (r1, .inr (0, [.ref j1, .int (nI L1.length)])), (j1, .inl (cI, 30, .inl f1)), (r2, .inr (0, [.ref j2, .int (nI L2.length)])), (j2, .inl (cI, 30, .inl f2)), (r3, .inr (0, [.ref j3, .int (nI L3.length)])), (j3, .inl (cI, 30, .inl f3)), (r4, .inr (0, [.ref j4, .int (nI L4.length)])), (j4, .inl (cI, 30, .inl f4)), (r5, .inr (0, [.ref j5, .int (nI P.length)])), (j5, .inl (cI, 30, .inl f5)), (r6, .inr (0, [.ref j6, .int (nI M.length)])), (j6, .inl (cI, 30, .inl f6))]) [0, 1, 2, 3, 4, 5, 6, 7, 8, 9, 14, 15, 10, 11, 12, 13] (by decide) rfl
                  clear hP hD
                  have hP := hP1
                  have hD := hD1
                  clear hP1 hD1
                  have hl9 := lv_sub (l' := [(5, .int (nI (k4 + 1))), (1, .long (dgl dd4 (L4.take (k4 + 1)))), (4, .ref r4), (3, .int (nI 4)), (0, .ref gp)]) hl [0, 1, 2, 3, 4] rfl
                  exact ihr4 _ _ _ _ ⟨by omega, (by omega), hP, hD, hS, hl9⟩
            · refine lv_lload_n hx hb dX2_digest_64 rfl (lv_at hl 1 rfl) ?_
              refine lv_ldc2 (v := 31) hx hb hown (hts (.constantLong RX2 165 (31)) (by decide +kernel)) dX2_digest_65 ?_
              refine lv_lmul hx hb dX2_digest_68 ?_
              refine lv_aload hx hb dX2_digest_69 (lv_at hl 2 rfl) ?_
              refine lv_iload hx hb dX2_digest_71 (lv_at hl 0 rfl) ?_
              have hPc := hP.sub (ws' := [(r3, .inr (0, [.ref j3, .int (nI L3.length)])), (j3, .inl (cI, 30, .inl f3))]) [14, 15] rfl
              have hDc := hD.sub (ws' := [(r3, .inr (0, [.ref j3, .int (nI L3.length)])), (j3, .inl (cI, 30, .inl f3))]) [14, 15] (by decide) rfl
              have hKc := hK.sub (tys' := [(cI, .int)]) [0] rfl
              have hFc := va_free (wc := [(r3, .inr (0, [.ref j3, .int (nI L3.length)])), (j3, .inl (cI, 30, .inl f3))]) hD hS hA [14, 15] rfl
              refine va_calli (va_runV (As := [.int (nI k3)]) (rest := [.long ((dgl dd3 (L3.take k3)) * 31)]) ⟨hx, hb, hml, hown, hts⟩ (c_X0_jarAt l G cI r3 j3 f3 L3 hR3 (by omega) k3 (by first | omega | (simp only [List.length_cons, List.length_dropLast, List.length_append] at *; omega)) H_76.size) (cwV 1 hts gX2_digest_X0_jarAt rfl rfl rfl (by decide +kernel) ⟨Nat.le_of_ble_eq_true rfl, Nat.le_of_ble_eq_true rfl⟩) (g_preV (As := [.int (nI k3)]) hPc hKc hDc 0 rfl rfl) rfl rfl hl.1 rfl (lv_room (Nat.le_of_ble_eq_true rfl)) dX2_digest_73 ⟨(Nat.le_of_ble_eq_true rfl), (Nat.le_of_ble_eq_true rfl)⟩) hS (fun q _ h => hFc q h) hFc (fun r_130 u_131 t H_129 locs ht hvm hw hB hz1 hk1 hS1 => ?_)
              subst hw
              obtain ⟨hP1, hD1⟩ := g_join (wc := [(r3, .inr (0, [.ref j3, .int (nI L3.length)])), (j3, .inl (cI, 30, .inl f3))]) (wr := [(aa, .inl (cI, 30, .inl KA)), (ta, .inl (cI, 30, .inl TA)), (gp, .inr (2, [.ref sh, .ref r5, .ref r6, .ref aa, .ref ta, .int nA, .int nH, .int nP, .int nM, .ref ts, .ref t5])), (sh, .inr (1, [.ref r1, .ref r2, .ref r3, .ref r4, .int (nI rc), .int (nI bo), .int lv])), (r1, .inr (0, [.ref j1, .int (nI L1.length)])), (j1, .inl (cI, 30, .inl f1)), (r2, .inr (0, [.ref j2, .int (nI L2.length)])), (j2, .inl (cI, 30, .inl f2)), (r4, .inr (0, [.ref j4, .int (nI L4.length)])), (j4, .inl (cI, 30, .inl f4)), (r5, .inr (0, [.ref j5, .int (nI P.length)])), (j5, .inl (cI, 30, .inl f5)), (r6, .inr (0, [.ref j6, .int (nI M.length)])), (j6, .inl (cI, 30, .inl f6))]) (w1 := [(r3, .inr (0, [.ref j3, .int (nI L3.length)])), (j3, .inl (cI, 30, .inl f3))]) hP hD [14, 15] [0, 1, 2, 3, 4, 5, 6, 7, 8, 9, 10, 11, 12, 13] rfl rfl (by decide) (by decide) ht hk1 hFc hB
              clear hB hk1 hz1 hvm ht hPc hDc hKc hFc
              clear hP hD hS
              have hP : va_P G vwCl [(aa, .inl (cI, 30, .inl KA)), (ta, .inl (cI, 30, .inl TA)), (gp, .inr (2, [.ref sh, .ref r5, .ref r6, .ref aa, .ref ta, .int nA, .int nH, .int nP, .int nM, .ref ts, .ref t5])), (sh, .inr (1, [.ref r1, .ref r2, .ref r3, .ref r4, .int (nI rc), .int (nI bo), .int lv])), (r1, .inr (0, [.ref j1, .int (nI L1.length)])), (j1, .inl (cI, 30, .inl f1)), (r2, .inr (0, [.ref j2, .int (nI L2.length)])), (j2, .inl (cI, 30, .inl f2)), (r4, .inr (0, [.ref j4, .int (nI L4.length)])), (j4, .inl (cI, 30, .inl f4)), (r5, .inr (0, [.ref j5, .int (nI P.length)])), (j5, .inl (cI, 30, .inl f5)), (r6, .inr (0, [.ref j6, .int (nI M.length)])), (j6, .inl (cI, 30, .inl f6)), (r3, .inr (0, [.ref j3, .int (nI L3.length)])), (j3, .inl (cI, 30, .inl f3))] H_129 := hP1
              have hD : va_D A [(aa, .inl (cI, 30, .inl KA)), (ta, .inl (cI, 30, .inl TA)), (gp, .inr (2, [.ref sh, .ref r5, .ref r6, .ref aa, .ref ta, .int nA, .int nH, .int nP, .int nM, .ref ts, .ref t5])), (sh, .inr (1, [.ref r1, .ref r2, .ref r3, .ref r4, .int (nI rc), .int (nI bo), .int lv])), (r1, .inr (0, [.ref j1, .int (nI L1.length)])), (j1, .inl (cI, 30, .inl f1)), (r2, .inr (0, [.ref j2, .int (nI L2.length)])), (j2, .inl (cI, 30, .inl f2)), (r4, .inr (0, [.ref j4, .int (nI L4.length)])), (j4, .inl (cI, 30, .inl f4)), (r5, .inr (0, [.ref j5, .int (nI P.length)])), (j5, .inl (cI, 30, .inl f5)), (r6, .inr (0, [.ref j6, .int (nI M.length)])), (j6, .inl (cI, 30, .inl f6)), (r3, .inr (0, [.ref j3, .int (nI L3.length)])), (j3, .inl (cI, 30, .inl f3))] := hD1
              have hS := hS1
              clear hP1 hD1 hS1
              refine lv_i2l hx hb dX2_digest_76 rfl ?_
              refine lv_ladd hx hb dX2_digest_77 ?_
              refine lv_lstore_n (lv' := [(1, .long (dg (dgl dd3 (L3.take k3)) ((L3.getD k3 0)))), (5, .int (nI k3)), (4, .ref r3), (3, .int (nI 3)), (0, .ref gp)]) hx hb dX2_digest_78 rfl hl (by decide) rfl (fun ls hl1 => ?_)
              clear hl
              have hl := hl1
              clear hl1
              refine lv_iinc (v := (nI (k3 + 1))) (lv' := [(5, .int (nI (k3 + 1))), (1, .long (dg (dgl dd3 (L3.take k3)) ((L3.getD k3 0)))), (4, .ref r3), (3, .int (nI 3)), (0, .ref gp)]) hx hb dX2_digest_79 hl (k := 1) rfl (nI_1 _) (by decide) rfl (fun ls hl => ?_)
              refine lv_goto (tgt := 49) hx hb dX2_digest_82 (by decide) ?_
              have hl1 : lv_has ls 6 [(5, .int (nI (k3 + 1))), (1, .long (dgl dd3 (L3.take (k3 + 1)))), (4, .ref r3), (3, .int (nI 3)), (0, .ref gp)] := by rw [← dgl_snoc (by omega)]; exact hl
              clear hl
              have hl := hl1
              clear hl1
              have hP1 := hP.sub (ws' := [(aa, .inl (cI, 30, .inl KA)), (ta, .inl (cI, 30, .inl TA)), (gp, .inr (2, [.ref sh, .ref r5, .ref r6, .ref aa, .ref ta, .int nA, .int nH, .int nP, .int nM, .ref ts, .ref t5])), (sh, .inr (1, [.ref r1, .ref r2, .ref r3, .ref r4, .int (nI rc), .int (nI bo), .int lv])), (r1, .inr (0, [.ref j1, .int (nI L1.length)])), (j1, .inl (cI, 30, .inl f1)), (r2, .inr (0, [.ref j2, .int (nI L2.length)])), (j2, .inl (cI, 30, .inl f2)), (r3, .inr (0, [.ref j3, .int (nI L3.length)])), (j3, .inl (cI, 30, .inl f3)), (r4, .inr (0, [.ref j4, .int (nI L4.length)])), (j4, .inl (cI, 30, .inl f4)), (r5, .inr (0, [.ref j5, .int (nI P.length)])), (j5, .inl (cI, 30, .inl f5)), (r6, .inr (0, [.ref j6, .int (nI M.length)])), (j6, .inl (cI, 30, .inl f6))]) [0, 1, 2, 3, 4, 5, 6, 7, 14, 15, 8, 9, 10, 11, 12, 13] rfl
              have hD1 := hD.sub (ws' := [(aa, .inl (cI, 30, .inl KA)), (ta, .inl (cI, 30, .inl TA)), (gp, .inr (2, [.ref sh, .ref r5, .ref r6, .ref aa, .ref ta, .int nA, .int nH, .int nP, .int nM, .ref ts, .ref t5])), (sh, .inr (1, [.ref r1, .ref r2, .ref r3, .ref r4, .int (nI rc), .int (nI bo), .int lv])), (r1, .inr (0, [.ref j1, .int (nI L1.length)])), (j1, .inl (cI, 30, .inl f1)), (r2, .inr (0, [.ref j2, .int (nI L2.length)])), (j2, .inl (cI, 30, .inl f2)), (r3, .inr (0, [.ref j3, .int (nI L3.length)])), (j3, .inl (cI, 30, .inl f3)), (r4, .inr (0, [.ref j4, .int (nI L4.length)])), (j4, .inl (cI, 30, .inl f4)), (r5, .inr (0, [.ref j5, .int (nI P.length)])), (j5, .inl (cI, 30, .inl f5)), (r6, .inr (0, [.ref j6, .int (nI M.length)])), (j6, .inl (cI, 30, .inl f6))]) [0, 1, 2, 3, 4, 5, 6, 7, 14, 15, 8, 9, 10, 11, 12, 13] (by decide) rfl
              clear hP hD
              have hP := hP1
              have hD := hD1
              clear hP1 hD1
              have hl9 := lv_sub (l' := [(5, .int (nI (k3 + 1))), (1, .long (dgl dd3 (L3.take (k3 + 1)))), (4, .ref r3), (3, .int (nI 3)), (0, .ref gp)]) hl [0, 1, 2, 3, 4] rfl
              exact ihr3 _ _ _ _ ⟨by omega, (by omega), hP, hD, hS, hl9⟩
        · refine lv_lload_n hx hb dX2_digest_64 rfl (lv_at hl 1 rfl) ?_
          refine lv_ldc2 (v := 31) hx hb hown (hts (.constantLong RX2 165 (31)) (by decide +kernel)) dX2_digest_65 ?_
          refine lv_lmul hx hb dX2_digest_68 ?_
          refine lv_aload hx hb dX2_digest_69 (lv_at hl 2 rfl) ?_
          refine lv_iload hx hb dX2_digest_71 (lv_at hl 0 rfl) ?_
          have hPc := hP.sub (ws' := [(r2, .inr (0, [.ref j2, .int (nI L2.length)])), (j2, .inl (cI, 30, .inl f2))]) [14, 15] rfl
          have hDc := hD.sub (ws' := [(r2, .inr (0, [.ref j2, .int (nI L2.length)])), (j2, .inl (cI, 30, .inl f2))]) [14, 15] (by decide) rfl
          have hKc := hK.sub (tys' := [(cI, .int)]) [0] rfl
          have hFc := va_free (wc := [(r2, .inr (0, [.ref j2, .int (nI L2.length)])), (j2, .inl (cI, 30, .inl f2))]) hD hS hA [14, 15] rfl
          refine va_calli (va_runV (As := [.int (nI k2)]) (rest := [.long ((dgl dd2 (L2.take k2)) * 31)]) ⟨hx, hb, hml, hown, hts⟩ (c_X0_jarAt l G cI r2 j2 f2 L2 hR2 (by omega) k2 (by first | omega | (simp only [List.length_cons, List.length_dropLast, List.length_append] at *; omega)) H_66.size) (cwV 1 hts gX2_digest_X0_jarAt rfl rfl rfl (by decide +kernel) ⟨Nat.le_of_ble_eq_true rfl, Nat.le_of_ble_eq_true rfl⟩) (g_preV (As := [.int (nI k2)]) hPc hKc hDc 0 rfl rfl) rfl rfl hl.1 rfl (lv_room (Nat.le_of_ble_eq_true rfl)) dX2_digest_73 ⟨(Nat.le_of_ble_eq_true rfl), (Nat.le_of_ble_eq_true rfl)⟩) hS (fun q _ h => hFc q h) hFc (fun r_133 u_134 t H_132 locs ht hvm hw hB hz1 hk1 hS1 => ?_)
          subst hw
          obtain ⟨hP1, hD1⟩ := g_join (wc := [(r2, .inr (0, [.ref j2, .int (nI L2.length)])), (j2, .inl (cI, 30, .inl f2))]) (wr := [(aa, .inl (cI, 30, .inl KA)), (ta, .inl (cI, 30, .inl TA)), (gp, .inr (2, [.ref sh, .ref r5, .ref r6, .ref aa, .ref ta, .int nA, .int nH, .int nP, .int nM, .ref ts, .ref t5])), (sh, .inr (1, [.ref r1, .ref r2, .ref r3, .ref r4, .int (nI rc), .int (nI bo), .int lv])), (r1, .inr (0, [.ref j1, .int (nI L1.length)])), (j1, .inl (cI, 30, .inl f1)), (r3, .inr (0, [.ref j3, .int (nI L3.length)])), (j3, .inl (cI, 30, .inl f3)), (r4, .inr (0, [.ref j4, .int (nI L4.length)])), (j4, .inl (cI, 30, .inl f4)), (r5, .inr (0, [.ref j5, .int (nI P.length)])), (j5, .inl (cI, 30, .inl f5)), (r6, .inr (0, [.ref j6, .int (nI M.length)])), (j6, .inl (cI, 30, .inl f6))]) (w1 := [(r2, .inr (0, [.ref j2, .int (nI L2.length)])), (j2, .inl (cI, 30, .inl f2))]) hP hD [14, 15] [0, 1, 2, 3, 4, 5, 6, 7, 8, 9, 10, 11, 12, 13] rfl rfl (by decide) (by decide) ht hk1 hFc hB
          clear hB hk1 hz1 hvm ht hPc hDc hKc hFc
          clear hP hD hS
          have hP : va_P G vwCl [(aa, .inl (cI, 30, .inl KA)), (ta, .inl (cI, 30, .inl TA)), (gp, .inr (2, [.ref sh, .ref r5, .ref r6, .ref aa, .ref ta, .int nA, .int nH, .int nP, .int nM, .ref ts, .ref t5])), (sh, .inr (1, [.ref r1, .ref r2, .ref r3, .ref r4, .int (nI rc), .int (nI bo), .int lv])), (r1, .inr (0, [.ref j1, .int (nI L1.length)])), (j1, .inl (cI, 30, .inl f1)), (r3, .inr (0, [.ref j3, .int (nI L3.length)])), (j3, .inl (cI, 30, .inl f3)), (r4, .inr (0, [.ref j4, .int (nI L4.length)])), (j4, .inl (cI, 30, .inl f4)), (r5, .inr (0, [.ref j5, .int (nI P.length)])), (j5, .inl (cI, 30, .inl f5)), (r6, .inr (0, [.ref j6, .int (nI M.length)])), (j6, .inl (cI, 30, .inl f6)), (r2, .inr (0, [.ref j2, .int (nI L2.length)])), (j2, .inl (cI, 30, .inl f2))] H_132 := hP1
          have hD : va_D A [(aa, .inl (cI, 30, .inl KA)), (ta, .inl (cI, 30, .inl TA)), (gp, .inr (2, [.ref sh, .ref r5, .ref r6, .ref aa, .ref ta, .int nA, .int nH, .int nP, .int nM, .ref ts, .ref t5])), (sh, .inr (1, [.ref r1, .ref r2, .ref r3, .ref r4, .int (nI rc), .int (nI bo), .int lv])), (r1, .inr (0, [.ref j1, .int (nI L1.length)])), (j1, .inl (cI, 30, .inl f1)), (r3, .inr (0, [.ref j3, .int (nI L3.length)])), (j3, .inl (cI, 30, .inl f3)), (r4, .inr (0, [.ref j4, .int (nI L4.length)])), (j4, .inl (cI, 30, .inl f4)), (r5, .inr (0, [.ref j5, .int (nI P.length)])), (j5, .inl (cI, 30, .inl f5)), (r6, .inr (0, [.ref j6, .int (nI M.length)])), (j6, .inl (cI, 30, .inl f6)), (r2, .inr (0, [.ref j2, .int (nI L2.length)])), (j2, .inl (cI, 30, .inl f2))] := hD1
          have hS := hS1
          clear hP1 hD1 hS1
          refine lv_i2l hx hb dX2_digest_76 rfl ?_
          refine lv_ladd hx hb dX2_digest_77 ?_
          refine lv_lstore_n (lv' := [(1, .long (dg (dgl dd2 (L2.take k2)) ((L2.getD k2 0)))), (5, .int (nI k2)), (4, .ref r2), (3, .int (nI 2)), (0, .ref gp)]) hx hb dX2_digest_78 rfl hl (by decide) rfl (fun ls hl1 => ?_)
          clear hl
          have hl := hl1
          clear hl1
          refine lv_iinc (v := (nI (k2 + 1))) (lv' := [(5, .int (nI (k2 + 1))), (1, .long (dg (dgl dd2 (L2.take k2)) ((L2.getD k2 0)))), (4, .ref r2), (3, .int (nI 2)), (0, .ref gp)]) hx hb dX2_digest_79 hl (k := 1) rfl (nI_1 _) (by decide) rfl (fun ls hl => ?_)
          refine lv_goto (tgt := 49) hx hb dX2_digest_82 (by decide) ?_
          have hl1 : lv_has ls 6 [(5, .int (nI (k2 + 1))), (1, .long (dgl dd2 (L2.take (k2 + 1)))), (4, .ref r2), (3, .int (nI 2)), (0, .ref gp)] := by rw [← dgl_snoc (by omega)]; exact hl
          clear hl
          have hl := hl1
          clear hl1
          have hP1 := hP.sub (ws' := [(aa, .inl (cI, 30, .inl KA)), (ta, .inl (cI, 30, .inl TA)), (gp, .inr (2, [.ref sh, .ref r5, .ref r6, .ref aa, .ref ta, .int nA, .int nH, .int nP, .int nM, .ref ts, .ref t5])), (sh, .inr (1, [.ref r1, .ref r2, .ref r3, .ref r4, .int (nI rc), .int (nI bo), .int lv])), (r1, .inr (0, [.ref j1, .int (nI L1.length)])), (j1, .inl (cI, 30, .inl f1)), (r2, .inr (0, [.ref j2, .int (nI L2.length)])), (j2, .inl (cI, 30, .inl f2)), (r3, .inr (0, [.ref j3, .int (nI L3.length)])), (j3, .inl (cI, 30, .inl f3)), (r4, .inr (0, [.ref j4, .int (nI L4.length)])), (j4, .inl (cI, 30, .inl f4)), (r5, .inr (0, [.ref j5, .int (nI P.length)])), (j5, .inl (cI, 30, .inl f5)), (r6, .inr (0, [.ref j6, .int (nI M.length)])), (j6, .inl (cI, 30, .inl f6))]) [0, 1, 2, 3, 4, 5, 14, 15, 6, 7, 8, 9, 10, 11, 12, 13] rfl
          have hD1 := hD.sub (ws' := [(aa, .inl (cI, 30, .inl KA)), (ta, .inl (cI, 30, .inl TA)), (gp, .inr (2, [.ref sh, .ref r5, .ref r6, .ref aa, .ref ta, .int nA, .int nH, .int nP, .int nM, .ref ts, .ref t5])), (sh, .inr (1, [.ref r1, .ref r2, .ref r3, .ref r4, .int (nI rc), .int (nI bo), .int lv])), (r1, .inr (0, [.ref j1, .int (nI L1.length)])), (j1, .inl (cI, 30, .inl f1)), (r2, .inr (0, [.ref j2, .int (nI L2.length)])), (j2, .inl (cI, 30, .inl f2)), (r3, .inr (0, [.ref j3, .int (nI L3.length)])), (j3, .inl (cI, 30, .inl f3)), (r4, .inr (0, [.ref j4, .int (nI L4.length)])), (j4, .inl (cI, 30, .inl f4)), (r5, .inr (0, [.ref j5, .int (nI P.length)])), (j5, .inl (cI, 30, .inl f5)), (r6, .inr (0, [.ref j6, .int (nI M.length)])), (j6, .inl (cI, 30, .inl f6))]) [0, 1, 2, 3, 4, 5, 14, 15, 6, 7, 8, 9, 10, 11, 12, 13] (by decide) rfl
          clear hP hD
          have hP := hP1
          have hD := hD1
          clear hP1 hD1
          have hl9 := lv_sub (l' := [(5, .int (nI (k2 + 1))), (1, .long (dgl dd2 (L2.take (k2 + 1)))), (4, .ref r2), (3, .int (nI 2)), (0, .ref gp)]) hl [0, 1, 2, 3, 4] rfl
          exact ihr2 _ _ _ _ ⟨by omega, (by omega), hP, hD, hS, hl9⟩
    · refine lv_lload_n hx hb dX2_digest_64 rfl (lv_at hl 1 rfl) ?_
      refine lv_ldc2 (v := 31) hx hb hown (hts (.constantLong RX2 165 (31)) (by decide +kernel)) dX2_digest_65 ?_
      refine lv_lmul hx hb dX2_digest_68 ?_
      refine lv_aload hx hb dX2_digest_69 (lv_at hl 2 rfl) ?_
      refine lv_iload hx hb dX2_digest_71 (lv_at hl 0 rfl) ?_
      have hPc := hP.sub (ws' := [(r1, .inr (0, [.ref j1, .int (nI L1.length)])), (j1, .inl (cI, 30, .inl f1))]) [14, 15] rfl
      have hDc := hD.sub (ws' := [(r1, .inr (0, [.ref j1, .int (nI L1.length)])), (j1, .inl (cI, 30, .inl f1))]) [14, 15] (by decide) rfl
      have hKc := hK.sub (tys' := [(cI, .int)]) [0] rfl
      have hFc := va_free (wc := [(r1, .inr (0, [.ref j1, .int (nI L1.length)])), (j1, .inl (cI, 30, .inl f1))]) hD hS hA [14, 15] rfl
      refine va_calli (va_runV (As := [.int (nI k1)]) (rest := [.long ((dgl dd1 (L1.take k1)) * 31)]) ⟨hx, hb, hml, hown, hts⟩ (c_X0_jarAt l G cI r1 j1 f1 L1 hR1 (by omega) k1 (by first | omega | (simp only [List.length_cons, List.length_dropLast, List.length_append] at *; omega)) H_56.size) (cwV 1 hts gX2_digest_X0_jarAt rfl rfl rfl (by decide +kernel) ⟨Nat.le_of_ble_eq_true rfl, Nat.le_of_ble_eq_true rfl⟩) (g_preV (As := [.int (nI k1)]) hPc hKc hDc 0 rfl rfl) rfl rfl hl.1 rfl (lv_room (Nat.le_of_ble_eq_true rfl)) dX2_digest_73 ⟨(Nat.le_of_ble_eq_true rfl), (Nat.le_of_ble_eq_true rfl)⟩) hS (fun q _ h => hFc q h) hFc (fun r_136 u_137 t H_135 locs ht hvm hw hB hz1 hk1 hS1 => ?_)
      subst hw
      obtain ⟨hP1, hD1⟩ := g_join (wc := [(r1, .inr (0, [.ref j1, .int (nI L1.length)])), (j1, .inl (cI, 30, .inl f1))]) (wr := [(aa, .inl (cI, 30, .inl KA)), (ta, .inl (cI, 30, .inl TA)), (gp, .inr (2, [.ref sh, .ref r5, .ref r6, .ref aa, .ref ta, .int nA, .int nH, .int nP, .int nM, .ref ts, .ref t5])), (sh, .inr (1, [.ref r1, .ref r2, .ref r3, .ref r4, .int (nI rc), .int (nI bo), .int lv])), (r2, .inr (0, [.ref j2, .int (nI L2.length)])), (j2, .inl (cI, 30, .inl f2)), (r3, .inr (0, [.ref j3, .int (nI L3.length)])), (j3, .inl (cI, 30, .inl f3)), (r4, .inr (0, [.ref j4, .int (nI L4.length)])), (j4, .inl (cI, 30, .inl f4)), (r5, .inr (0, [.ref j5, .int (nI P.length)])), (j5, .inl (cI, 30, .inl f5)), (r6, .inr (0, [.ref j6, .int (nI M.length)])), (j6, .inl (cI, 30, .inl f6))]) (w1 := [(r1, .inr (0, [.ref j1, .int (nI L1.length)])), (j1, .inl (cI, 30, .inl f1))]) hP hD [14, 15] [0, 1, 2, 3, 4, 5, 6, 7, 8, 9, 10, 11, 12, 13] rfl rfl (by decide) (by decide) ht hk1 hFc hB
      clear hB hk1 hz1 hvm ht hPc hDc hKc hFc
      clear hP hD hS
      have hP : va_P G vwCl [(aa, .inl (cI, 30, .inl KA)), (ta, .inl (cI, 30, .inl TA)), (gp, .inr (2, [.ref sh, .ref r5, .ref r6, .ref aa, .ref ta, .int nA, .int nH, .int nP, .int nM, .ref ts, .ref t5])), (sh, .inr (1, [.ref r1, .ref r2, .ref r3, .ref r4, .int (nI rc), .int (nI bo), .int lv])), (r2, .inr (0, [.ref j2, .int (nI L2.length)])), (j2, .inl (cI, 30, .inl f2)), (r3, .inr (0, [.ref j3, .int (nI L3.length)])), (j3, .inl (cI, 30, .inl f3)), (r4, .inr (0, [.ref j4, .int (nI L4.length)])), (j4, .inl (cI, 30, .inl f4)), (r5, .inr (0, [.ref j5, .int (nI P.length)])), (j5, .inl (cI, 30, .inl f5)), (r6, .inr (0, [.ref j6, .int (nI M.length)])), (j6, .inl (cI, 30, .inl f6)), (r1, .inr (0, [.ref j1, .int (nI L1.length)])), (j1, .inl (cI, 30, .inl f1))] H_135 := hP1
      have hD : va_D A [(aa, .inl (cI, 30, .inl KA)), (ta, .inl (cI, 30, .inl TA)), (gp, .inr (2, [.ref sh, .ref r5, .ref r6, .ref aa, .ref ta, .int nA, .int nH, .int nP, .int nM, .ref ts, .ref t5])), (sh, .inr (1, [.ref r1, .ref r2, .ref r3, .ref r4, .int (nI rc), .int (nI bo), .int lv])), (r2, .inr (0, [.ref j2, .int (nI L2.length)])), (j2, .inl (cI, 30, .inl f2)), (r3, .inr (0, [.ref j3, .int (nI L3.length)])), (j3, .inl (cI, 30, .inl f3)), (r4, .inr (0, [.ref j4, .int (nI L4.length)])), (j4, .inl (cI, 30, .inl f4)), (r5, .inr (0, [.ref j5, .int (nI P.length)])), (j5, .inl (cI, 30, .inl f5)), (r6, .inr (0, [.ref j6, .int (nI M.length)])), (j6, .inl (cI, 30, .inl f6)), (r1, .inr (0, [.ref j1, .int (nI L1.length)])), (j1, .inl (cI, 30, .inl f1))] := hD1
      have hS := hS1
      clear hP1 hD1 hS1
      refine lv_i2l hx hb dX2_digest_76 rfl ?_
      refine lv_ladd hx hb dX2_digest_77 ?_
      refine lv_lstore_n (lv' := [(1, .long (dg (dgl dd1 (L1.take k1)) ((L1.getD k1 0)))), (5, .int (nI k1)), (4, .ref r1), (3, .int (nI 1)), (0, .ref gp)]) hx hb dX2_digest_78 rfl hl (by decide) rfl (fun ls hl1 => ?_)
      clear hl
      have hl := hl1
      clear hl1
      refine lv_iinc (v := (nI (k1 + 1))) (lv' := [(5, .int (nI (k1 + 1))), (1, .long (dg (dgl dd1 (L1.take k1)) ((L1.getD k1 0)))), (4, .ref r1), (3, .int (nI 1)), (0, .ref gp)]) hx hb dX2_digest_79 hl (k := 1) rfl (nI_1 _) (by decide) rfl (fun ls hl => ?_)
      refine lv_goto (tgt := 49) hx hb dX2_digest_82 (by decide) ?_
      have hl1 : lv_has ls 6 [(5, .int (nI (k1 + 1))), (1, .long (dgl dd1 (L1.take (k1 + 1)))), (4, .ref r1), (3, .int (nI 1)), (0, .ref gp)] := by rw [← dgl_snoc (by omega)]; exact hl
      clear hl
      have hl := hl1
      clear hl1
      have hP1 := hP.sub (ws' := [(aa, .inl (cI, 30, .inl KA)), (ta, .inl (cI, 30, .inl TA)), (gp, .inr (2, [.ref sh, .ref r5, .ref r6, .ref aa, .ref ta, .int nA, .int nH, .int nP, .int nM, .ref ts, .ref t5])), (sh, .inr (1, [.ref r1, .ref r2, .ref r3, .ref r4, .int (nI rc), .int (nI bo), .int lv])), (r1, .inr (0, [.ref j1, .int (nI L1.length)])), (j1, .inl (cI, 30, .inl f1)), (r2, .inr (0, [.ref j2, .int (nI L2.length)])), (j2, .inl (cI, 30, .inl f2)), (r3, .inr (0, [.ref j3, .int (nI L3.length)])), (j3, .inl (cI, 30, .inl f3)), (r4, .inr (0, [.ref j4, .int (nI L4.length)])), (j4, .inl (cI, 30, .inl f4)), (r5, .inr (0, [.ref j5, .int (nI P.length)])), (j5, .inl (cI, 30, .inl f5)), (r6, .inr (0, [.ref j6, .int (nI M.length)])), (j6, .inl (cI, 30, .inl f6))]) [0, 1, 2, 3, 14, 15, 4, 5, 6, 7, 8, 9, 10, 11, 12, 13] rfl
      have hD1 := hD.sub (ws' := [(aa, .inl (cI, 30, .inl KA)), (ta, .inl (cI, 30, .inl TA)), (gp, .inr (2, [.ref sh, .ref r5, .ref r6, .ref aa, .ref ta, .int nA, .int nH, .int nP, .int nM, .ref ts, .ref t5])), (sh, .inr (1, [.ref r1, .ref r2, .ref r3, .ref r4, .int (nI rc), .int (nI bo), .int lv])), (r1, .inr (0, [.ref j1, .int (nI L1.length)])), (j1, .inl (cI, 30, .inl f1)), (r2, .inr (0, [.ref j2, .int (nI L2.length)])), (j2, .inl (cI, 30, .inl f2)), (r3, .inr (0, [.ref j3, .int (nI L3.length)])), (j3, .inl (cI, 30, .inl f3)), (r4, .inr (0, [.ref j4, .int (nI L4.length)])), (j4, .inl (cI, 30, .inl f4)), (r5, .inr (0, [.ref j5, .int (nI P.length)])), (j5, .inl (cI, 30, .inl f5)), (r6, .inr (0, [.ref j6, .int (nI M.length)])), (j6, .inl (cI, 30, .inl f6))]) [0, 1, 2, 3, 14, 15, 4, 5, 6, 7, 8, 9, 10, 11, 12, 13] (by decide) rfl
      clear hP hD
      have hP := hP1
      have hD := hD1
      clear hP1 hD1
      have hl9 := lv_sub (l' := [(5, .int (nI (k1 + 1))), (1, .long (dgl dd1 (L1.take (k1 + 1)))), (4, .ref r1), (3, .int (nI 1)), (0, .ref gp)]) hl [0, 1, 2, 3, 4] rfl
      exact ihr1 _ _ _ _ ⟨by omega, (by omega), hP, hD, hS, hl9⟩

set_option maxRecDepth 20000 in
theorem iX3_digest_X3 : ∀ w ∈ wsX30, w ∈ wsX3_digest := by decide +kernel
set_option maxHeartbeats 4000000 in
set_option maxRecDepth 100000 in
theorem c_X3_digest (l : Launch) (G : va_G) (cI cR : ClassId) (mo rr si nb ak ha b0 b1 b2 b3 b4 b5 b6 : Nat) (th : Int32) (D : Nat → Nat → Int32) (L1 L2 L3 L4 P M : List Int32) (rc bo : Nat) (nA nH nP nM : Int32) (KA TA : Nat → Int32) (hM : MOK D rc M ((L1, L2, L3, L4), P, bo, nA, nH, nP, nM, KA, TA)) (hs : StOk rc ((L1, L2, L3, L4), P, bo, nA, nH, nP, nM, KA, TA)) (hm1 : M.length ≤ 30) (hm2 : allOk M) (sz : Nat) : Met l yX3_digest wsX3_digest ({ frames := 1, cells := 0, slots := 0, locals := 21 }) (va_Pc [.ref mo] (gpre G [(cI, .int), (cR, .array .int)] [(mo, .inr (3, [.int th, .ref rr, .ref si, .ref nb, .ref ak, .ref ha])), (rr, .inl (cR, 7, .inr (.inr (.inr (.inr (RW [b0, b1, b2, b3, b4, b5, b6])))))), (si, .inl (cI, 7, .inl (D 0))), (nb, .inl (cI, 6, .inl (D 1))), (ak, .inl (cI, 30, .inl (D 2))), (ha, .inl (cI, 30, .inl (D 3))), (b0, .inl (cI, 31, .inl (D 4))), (b1, .inl (cI, 31, .inl (D 5))), (b2, .inl (cI, 31, .inl (D 6))), (b3, .inl (cI, 31, .inl (D 7))), (b4, .inl (cI, 31, .inl (D 8))), (b5, .inl (cI, 31, .inl (D 9))), (b6, .inl (cI, 31, .inl (D 10)))] sz)) (va_Ql (fun (z : Int64) (_ : Unit) => z = dgs rc M ((L1, L2, L3, L4), P, bo, nA, nH, nP, nM, KA, TA)) (fun (_ : Unit) t => gat G [(cI, .int), (cR, .array .int)] (va_A [(mo, .inr (3, [.int th, .ref rr, .ref si, .ref nb, .ref ak, .ref ha])), (rr, .inl (cR, 7, .inr (.inr (.inr (.inr (RW [b0, b1, b2, b3, b4, b5, b6])))))), (si, .inl (cI, 7, .inl (D 0))), (nb, .inl (cI, 6, .inl (D 1))), (ak, .inl (cI, 30, .inl (D 2))), (ha, .inl (cI, 30, .inl (D 3))), (b0, .inl (cI, 31, .inl (D 4))), (b1, .inl (cI, 31, .inl (D 5))), (b2, .inl (cI, 31, .inl (D 6))), (b3, .inl (cI, 31, .inl (D 7))), (b4, .inl (cI, 31, .inl (D 8))), (b5, .inl (cI, 31, .inl (D 9))), (b6, .inl (cI, 31, .inl (D 10)))] sz) [(mo, .inr (3, [.int (nI 0), .ref rr, .ref si, .ref nb, .ref ak, .ref ha])), (rr, .inl (cR, 7, .inr (.inr (.inr (.inr (RW [b0, b1, b2, b3, b4, b5, b6])))))), (si, .inl (cI, 7, .inl (D 0))), (nb, .inl (cI, 6, .inl (D 1))), (ak, .inl (cI, 30, .inl (D 2))), (ha, .inl (cI, 30, .inl (D 3))), (b0, .inl (cI, 31, .inl (D 4))), (b1, .inl (cI, 31, .inl (D 5))), (b2, .inl (cI, 31, .inl (D 6))), (b3, .inl (cI, 31, .inl (D 7))), (b4, .inl (cI, 31, .inl (D 8))), (b5, .inl (cI, 31, .inl (D 9))), (b6, .inl (cI, 31, .inl (D 10)))] t) (va_A [(mo, .inr (3, [.int th, .ref rr, .ref si, .ref nb, .ref ak, .ref ha])), (rr, .inl (cR, 7, .inr (.inr (.inr (.inr (RW [b0, b1, b2, b3, b4, b5, b6])))))), (si, .inl (cI, 7, .inl (D 0))), (nb, .inl (cI, 6, .inl (D 1))), (ak, .inl (cI, 30, .inl (D 2))), (ha, .inl (cI, 30, .inl (D 3))), (b0, .inl (cI, 31, .inl (D 4))), (b1, .inl (cI, 31, .inl (D 5))), (b2, .inl (cI, 31, .inl (D 6))), (b3, .inl (cI, 31, .inl (D 7))), (b4, .inl (cI, 31, .inl (D 8))), (b5, .inl (cI, 31, .inl (D 9))), (b6, .inl (cI, 31, .inl (D 10)))] sz)) 0 0 (va_A [(mo, .inr (3, [.int th, .ref rr, .ref si, .ref nb, .ref ak, .ref ha])), (rr, .inl (cR, 7, .inr (.inr (.inr (.inr (RW [b0, b1, b2, b3, b4, b5, b6])))))), (si, .inl (cI, 7, .inl (D 0))), (nb, .inl (cI, 6, .inl (D 1))), (ak, .inl (cI, 30, .inl (D 2))), (ha, .inl (cI, 30, .inl (D 3))), (b0, .inl (cI, 31, .inl (D 4))), (b1, .inl (cI, 31, .inl (D 5))), (b2, .inl (cI, 31, .inl (D 6))), (b3, .inl (cI, 31, .inl (D 7))), (b4, .inl (cI, 31, .inl (D 8))), (b5, .inl (cI, 31, .inl (D 9))), (b6, .inl (cI, 31, .inl (D 10)))] sz) := by
  refine Met.ofW (cc := cX3_digest) (maxL := 5) (ret := (some .long)) (by decide) rfl ?_
  intro p e s m args below meth c s₁ B hml hv
  obtain ⟨rfl, hsz, hP, hK, hD0⟩ := hv
  have hx := B.exec
  have hb := B.bytes
  have hr := B.returns
  have hts := atoms_spec (ws := wsX3_digest) B.pre
  have hown : s.vm.findClass RX3 = some m.cls := findClass_of_methodNamed B.named
  have hlocks := B.notSynchronized
  subst hsz
  have hD := hD0.self (sz := s.heap.size)
  clear hD0
  generalize hAe : va_A [(mo, .inr (3, [.int th, .ref rr, .ref si, .ref nb, .ref ak, .ref ha])), (rr, .inl (cR, 7, .inr (.inr (.inr (.inr (RW [b0, b1, b2, b3, b4, b5, b6])))))), (si, .inl (cI, 7, .inl (D 0))), (nb, .inl (cI, 6, .inl (D 1))), (ak, .inl (cI, 30, .inl (D 2))), (ha, .inl (cI, 30, .inl (D 3))), (b0, .inl (cI, 31, .inl (D 4))), (b1, .inl (cI, 31, .inl (D 5))), (b2, .inl (cI, 31, .inl (D 6))), (b3, .inl (cI, 31, .inl (D 7))), (b4, .inl (cI, 31, .inl (D 8))), (b5, .inl (cI, 31, .inl (D 9))), (b6, .inl (cI, 31, .inl (D 10)))] s.heap.size = A at hD ⊢
  have hA : ∀ q : Nat, s.heap.size ≤ q → A q := fun q h => by rw [← hAe]; exact Or.inr h
  have hS : va_S A s.heap s.heap [] := va_S.rf
  have hP : va_P G vwCl [(mo, .inr (3, [.int th, .ref rr, .ref si, .ref nb, .ref ak, .ref ha])), (rr, .inl (cR, 7, .inr (.inr (.inr (.inr (RW [b0, b1, b2, b3, b4, b5, b6])))))), (si, .inl (cI, 7, .inl (D 0))), (nb, .inl (cI, 6, .inl (D 1))), (ak, .inl (cI, 30, .inl (D 2))), (ha, .inl (cI, 30, .inl (D 3))), (b0, .inl (cI, 31, .inl (D 4))), (b1, .inl (cI, 31, .inl (D 5))), (b2, .inl (cI, 31, .inl (D 6))), (b3, .inl (cI, 31, .inl (D 7))), (b4, .inl (cI, 31, .inl (D 8))), (b5, .inl (cI, 31, .inl (D 9))), (b6, .inl (cI, 31, .inl (D 10)))] s.heap := hP
  have hl := lv_entry ([.ref mo]) (n := 5) (Nat.le_of_ble_eq_true rfl)
  rw [lg_entry_eq]
  generalize (lg_sl ([.ref mo]) ++ List.replicate (5 - (lg_sl ([.ref mo])).length) Slot.unset).toArray = ls at hl ⊢
  have hl : lv_has ls 5 [(0, .ref mo)] := hl
  obtain ⟨hn, hj, h3, h4⟩ : Num rc bo (L1, L2, L3, L4) ∧ Jrs (L1, L2, L3, L4) ∧ P.length ≤ rc ∧ allOk P := hs
  obtain ⟨hn1, hn2, hn3, hn4, hn5, hn6⟩ : 1 ≤ rc ∧ rc ≤ 12 ∧ bo ≤ rc ∧ L1.length + L2.length ≤ rc ∧ L1.length + L3.length ≤ rc ∧ L1.length + L2.length + L3.length + L4.length ≤ 2 * rc := hn
  have hn : Num rc bo (L1, L2, L3, L4) := ⟨hn1, hn2, hn3, hn4, hn5, hn6⟩
  refine lv_aload_n hx hb dX3_digest_0 rfl (lv_at hl 0 rfl) ?_
  refine lv_iconst (v := (nI 0)) hx hb dX3_digest_1 (by decide +kernel) ?_
  refine va_put (D := G) (ci := 3) (v := .int (nI 0)) (ty := .int) (C := RX3) (T := TX3) (N := 6) hx hb hts iX3_digest_X3 tyX3 tyX3_ok nmX3 hown hK hP hD hS 0 rfl rfl 0 (by decide) (hts (.fieldLink RX3 27 "GhostPantryModel" "thrown" "I") (by decide +kernel)) (fun _ h9 => h9) rfl (by decide +kernel) rfl rfl (Nat.le_of_ble_eq_true rfl) dX3_digest_2 (fun H_1 locs hP1 hD1 hS1 => ?_)
  clear hP hD hS
  have hP : va_P G vwCl [(mo, .inr (3, [.int (nI 0), .ref rr, .ref si, .ref nb, .ref ak, .ref ha])), (rr, .inl (cR, 7, .inr (.inr (.inr (.inr (RW [b0, b1, b2, b3, b4, b5, b6])))))), (si, .inl (cI, 7, .inl (D 0))), (nb, .inl (cI, 6, .inl (D 1))), (ak, .inl (cI, 30, .inl (D 2))), (ha, .inl (cI, 30, .inl (D 3))), (b0, .inl (cI, 31, .inl (D 4))), (b1, .inl (cI, 31, .inl (D 5))), (b2, .inl (cI, 31, .inl (D 6))), (b3, .inl (cI, 31, .inl (D 7))), (b4, .inl (cI, 31, .inl (D 8))), (b5, .inl (cI, 31, .inl (D 9))), (b6, .inl (cI, 31, .inl (D 10)))] H_1 := hP1
  have hD : va_D A [(mo, .inr (3, [.int (nI 0), .ref rr, .ref si, .ref nb, .ref ak, .ref ha])), (rr, .inl (cR, 7, .inr (.inr (.inr (.inr (RW [b0, b1, b2, b3, b4, b5, b6])))))), (si, .inl (cI, 7, .inl (D 0))), (nb, .inl (cI, 6, .inl (D 1))), (ak, .inl (cI, 30, .inl (D 2))), (ha, .inl (cI, 30, .inl (D 3))), (b0, .inl (cI, 31, .inl (D 4))), (b1, .inl (cI, 31, .inl (D 5))), (b2, .inl (cI, 31, .inl (D 6))), (b3, .inl (cI, 31, .inl (D 7))), (b4, .inl (cI, 31, .inl (D 8))), (b5, .inl (cI, 31, .inl (D 9))), (b6, .inl (cI, 31, .inl (D 10)))] := hD1
  have hS := hS1
  clear hP1 hD1 hS1
  refine lv_ldc2 (v := 1427) hx hb hown (hts (.constantLong RX3 122 (1427)) (by decide +kernel)) dX3_digest_5 ?_
  refine lv_lstore_n (lv' := [(1, .long 1427), (0, .ref mo)]) hx hb dX3_digest_8 rfl hl (by decide) rfl (fun ls hl1 => ?_)
  clear hl
  have hl := hl1
  clear hl1
  refine lv_iconst (v := (nI 0)) hx hb dX3_digest_9 (by decide +kernel) ?_
  refine lv_istore_n (lv' := [(3, .int (nI 0)), (1, .long 1427), (0, .ref mo)]) hx hb dX3_digest_10 rfl hl (by decide) rfl (fun ls hl1 => ?_)
  clear hl
  have hl := hl1
  clear hl1
  refine lv_iload_n hx hb dX3_digest_11 rfl (lv_at hl 0 rfl) ?_
  refine lv_bipush (v := (nI 12)) hx hb dX3_digest_12 (by decide +kernel) ?_
  refine g_icmp_ge (tgt := 36) hx hb dX3_digest_14 (by decide) (by decide) (by decide) (fun c_2 => False.elim (by omega)) (fun c_2 => ?_)
  refine lv_lload_n hx hb dX3_digest_17 rfl (lv_at hl 1 rfl) ?_
  refine lv_ldc2 (v := 31) hx hb hown (hts (.constantLong RX3 124 (31)) (by decide +kernel)) dX3_digest_18 ?_
  refine lv_lmul hx hb dX3_digest_21 ?_
  refine lv_aload_n hx hb dX3_digest_22 rfl (lv_at hl 2 rfl) ?_
  refine lv_iload_n hx hb dX3_digest_23 rfl (lv_at hl 0 rfl) ?_
  have hPc := hP.sub (ws' := [(mo, .inr (3, [.int (nI 0), .ref rr, .ref si, .ref nb, .ref ak, .ref ha])), (rr, .inl (cR, 7, .inr (.inr (.inr (.inr (RW [b0, b1, b2, b3, b4, b5, b6])))))), (si, .inl (cI, 7, .inl (D 0))), (nb, .inl (cI, 6, .inl (D 1))), (ak, .inl (cI, 30, .inl (D 2))), (ha, .inl (cI, 30, .inl (D 3))), (b0, .inl (cI, 31, .inl (D 4))), (b1, .inl (cI, 31, .inl (D 5))), (b2, .inl (cI, 31, .inl (D 6))), (b3, .inl (cI, 31, .inl (D 7))), (b4, .inl (cI, 31, .inl (D 8))), (b5, .inl (cI, 31, .inl (D 9))), (b6, .inl (cI, 31, .inl (D 10)))]) [0, 1, 2, 3, 4, 5, 6, 7, 8, 9, 10, 11, 12] rfl
  have hDc := hD.sub (ws' := [(mo, .inr (3, [.int (nI 0), .ref rr, .ref si, .ref nb, .ref ak, .ref ha])), (rr, .inl (cR, 7, .inr (.inr (.inr (.inr (RW [b0, b1, b2, b3, b4, b5, b6])))))), (si, .inl (cI, 7, .inl (D 0))), (nb, .inl (cI, 6, .inl (D 1))), (ak, .inl (cI, 30, .inl (D 2))), (ha, .inl (cI, 30, .inl (D 3))), (b0, .inl (cI, 31, .inl (D 4))), (b1, .inl (cI, 31, .inl (D 5))), (b2, .inl (cI, 31, .inl (D 6))), (b3, .inl (cI, 31, .inl (D 7))), (b4, .inl (cI, 31, .inl (D 8))), (b5, .inl (cI, 31, .inl (D 9))), (b6, .inl (cI, 31, .inl (D 10)))]) [0, 1, 2, 3, 4, 5, 6, 7, 8, 9, 10, 11, 12] (by decide) rfl
  have hKc := hK.sub (tys' := [(cI, .int), (cR, .array .int)]) [0, 1] rfl
  have hFc := va_free (wc := [(mo, .inr (3, [.int (nI 0), .ref rr, .ref si, .ref nb, .ref ak, .ref ha])), (rr, .inl (cR, 7, .inr (.inr (.inr (.inr (RW [b0, b1, b2, b3, b4, b5, b6])))))), (si, .inl (cI, 7, .inl (D 0))), (nb, .inl (cI, 6, .inl (D 1))), (ak, .inl (cI, 30, .inl (D 2))), (ha, .inl (cI, 30, .inl (D 3))), (b0, .inl (cI, 31, .inl (D 4))), (b1, .inl (cI, 31, .inl (D 5))), (b2, .inl (cI, 31, .inl (D 6))), (b3, .inl (cI, 31, .inl (D 7))), (b4, .inl (cI, 31, .inl (D 8))), (b5, .inl (cI, 31, .inl (D 9))), (b6, .inl (cI, 31, .inl (D 10)))]) hD hS hA [0, 1, 2, 3, 4, 5, 6, 7, 8, 9, 10, 11, 12] rfl
  refine va_calli (va_runV (As := [.int (nI 0)]) (rest := [.long (1427 * 31)]) ⟨hx, hb, hml, hown, hts⟩ (c_X3_counted_0 l G cI cR mo rr si nb ak ha b0 b1 b2 b3 b4 b5 b6 (nI 0) D L1 L2 L3 L4 P M rc bo nA nH nP nM KA TA hM  H_1.size) (cwV 1 hts gX3_digest_X3_counted rfl rfl rfl (by decide +kernel) ⟨Nat.le_of_ble_eq_true rfl, Nat.le_of_ble_eq_true rfl⟩) (g_preV (As := [.int (nI 0)]) hPc hKc hDc 0 rfl rfl) rfl rfl hl.1 rfl (lv_room (Nat.le_of_ble_eq_true rfl)) dX3_digest_24 ⟨(Nat.le_of_ble_eq_true rfl), (Nat.le_of_ble_eq_true rfl)⟩) hS (fun q _ h => hFc q h) hFc (fun r_4 u_5 t H_3 locs ht hvm hw hB hz1 hk1 hS1 => ?_)
  have hw := hw.symm
  subst hw
  obtain ⟨hP1, hD1⟩ := g_join (wc := [(mo, .inr (3, [.int (nI 0), .ref rr, .ref si, .ref nb, .ref ak, .ref ha])), (rr, .inl (cR, 7, .inr (.inr (.inr (.inr (RW [b0, b1, b2, b3, b4, b5, b6])))))), (si, .inl (cI, 7, .inl (D 0))), (nb, .inl (cI, 6, .inl (D 1))), (ak, .inl (cI, 30, .inl (D 2))), (ha, .inl (cI, 30, .inl (D 3))), (b0, .inl (cI, 31, .inl (D 4))), (b1, .inl (cI, 31, .inl (D 5))), (b2, .inl (cI, 31, .inl (D 6))), (b3, .inl (cI, 31, .inl (D 7))), (b4, .inl (cI, 31, .inl (D 8))), (b5, .inl (cI, 31, .inl (D 9))), (b6, .inl (cI, 31, .inl (D 10)))]) (wr := []) (w1 := [(mo, .inr (3, [.int (nI 0), .ref rr, .ref si, .ref nb, .ref ak, .ref ha])), (rr, .inl (cR, 7, .inr (.inr (.inr (.inr (RW [b0, b1, b2, b3, b4, b5, b6])))))), (si, .inl (cI, 7, .inl (D 0))), (nb, .inl (cI, 6, .inl (D 1))), (ak, .inl (cI, 30, .inl (D 2))), (ha, .inl (cI, 30, .inl (D 3))), (b0, .inl (cI, 31, .inl (D 4))), (b1, .inl (cI, 31, .inl (D 5))), (b2, .inl (cI, 31, .inl (D 6))), (b3, .inl (cI, 31, .inl (D 7))), (b4, .inl (cI, 31, .inl (D 8))), (b5, .inl (cI, 31, .inl (D 9))), (b6, .inl (cI, 31, .inl (D 10)))]) hP hD [0, 1, 2, 3, 4, 5, 6, 7, 8, 9, 10, 11, 12] [] rfl rfl (by decide) (by decide) ht hk1 hFc hB
  clear hB hk1 hz1 hvm ht hPc hDc hKc hFc
  clear hP hD hS
  have hP : va_P G vwCl [(mo, .inr (3, [.int (nI 0), .ref rr, .ref si, .ref nb, .ref ak, .ref ha])), (rr, .inl (cR, 7, .inr (.inr (.inr (.inr (RW [b0, b1, b2, b3, b4, b5, b6])))))), (si, .inl (cI, 7, .inl (D 0))), (nb, .inl (cI, 6, .inl (D 1))), (ak, .inl (cI, 30, .inl (D 2))), (ha, .inl (cI, 30, .inl (D 3))), (b0, .inl (cI, 31, .inl (D 4))), (b1, .inl (cI, 31, .inl (D 5))), (b2, .inl (cI, 31, .inl (D 6))), (b3, .inl (cI, 31, .inl (D 7))), (b4, .inl (cI, 31, .inl (D 8))), (b5, .inl (cI, 31, .inl (D 9))), (b6, .inl (cI, 31, .inl (D 10)))] H_3 := hP1
  have hD : va_D A [(mo, .inr (3, [.int (nI 0), .ref rr, .ref si, .ref nb, .ref ak, .ref ha])), (rr, .inl (cR, 7, .inr (.inr (.inr (.inr (RW [b0, b1, b2, b3, b4, b5, b6])))))), (si, .inl (cI, 7, .inl (D 0))), (nb, .inl (cI, 6, .inl (D 1))), (ak, .inl (cI, 30, .inl (D 2))), (ha, .inl (cI, 30, .inl (D 3))), (b0, .inl (cI, 31, .inl (D 4))), (b1, .inl (cI, 31, .inl (D 5))), (b2, .inl (cI, 31, .inl (D 6))), (b3, .inl (cI, 31, .inl (D 7))), (b4, .inl (cI, 31, .inl (D 8))), (b5, .inl (cI, 31, .inl (D 9))), (b6, .inl (cI, 31, .inl (D 10)))] := hD1
  have hS := hS1
  clear hP1 hD1 hS1
  refine lv_i2l hx hb dX3_digest_27 rfl ?_
  refine lv_ladd hx hb dX3_digest_28 ?_
  refine lv_lstore_n (lv' := [(1, .long (dg 1427 ((nI rc)))), (3, .int (nI 0)), (0, .ref mo)]) hx hb dX3_digest_29 rfl hl (by decide) rfl (fun ls hl1 => ?_)
  clear hl
  have hl := hl1
  clear hl1
  refine lv_iinc (v := (nI 1)) (lv' := [(3, .int (nI 1)), (1, .long (dg 1427 ((nI rc)))), (0, .ref mo)]) hx hb dX3_digest_30 hl (k := 1) rfl (by decide +kernel) (by decide) rfl (fun ls hl => ?_)
  refine lv_goto (tgt := 11) hx hb dX3_digest_33 (by decide) ?_
  refine lv_iload_n hx hb dX3_digest_11 rfl (lv_at hl 0 rfl) ?_
  refine lv_bipush (v := (nI 12)) hx hb dX3_digest_12 (by decide +kernel) ?_
  refine g_icmp_ge (tgt := 36) hx hb dX3_digest_14 (by decide) (by decide) (by decide) (fun c_6 => False.elim (by omega)) (fun c_6 => ?_)
  refine lv_lload_n hx hb dX3_digest_17 rfl (lv_at hl 1 rfl) ?_
  refine lv_ldc2 (v := 31) hx hb hown (hts (.constantLong RX3 124 (31)) (by decide +kernel)) dX3_digest_18 ?_
  refine lv_lmul hx hb dX3_digest_21 ?_
  refine lv_aload_n hx hb dX3_digest_22 rfl (lv_at hl 2 rfl) ?_
  refine lv_iload_n hx hb dX3_digest_23 rfl (lv_at hl 0 rfl) ?_
  have hPc := hP.sub (ws' := [(mo, .inr (3, [.int (nI 0), .ref rr, .ref si, .ref nb, .ref ak, .ref ha])), (rr, .inl (cR, 7, .inr (.inr (.inr (.inr (RW [b0, b1, b2, b3, b4, b5, b6])))))), (si, .inl (cI, 7, .inl (D 0))), (nb, .inl (cI, 6, .inl (D 1))), (ak, .inl (cI, 30, .inl (D 2))), (ha, .inl (cI, 30, .inl (D 3))), (b0, .inl (cI, 31, .inl (D 4))), (b1, .inl (cI, 31, .inl (D 5))), (b2, .inl (cI, 31, .inl (D 6))), (b3, .inl (cI, 31, .inl (D 7))), (b4, .inl (cI, 31, .inl (D 8))), (b5, .inl (cI, 31, .inl (D 9))), (b6, .inl (cI, 31, .inl (D 10)))]) [0, 1, 2, 3, 4, 5, 6, 7, 8, 9, 10, 11, 12] rfl
  have hDc := hD.sub (ws' := [(mo, .inr (3, [.int (nI 0), .ref rr, .ref si, .ref nb, .ref ak, .ref ha])), (rr, .inl (cR, 7, .inr (.inr (.inr (.inr (RW [b0, b1, b2, b3, b4, b5, b6])))))), (si, .inl (cI, 7, .inl (D 0))), (nb, .inl (cI, 6, .inl (D 1))), (ak, .inl (cI, 30, .inl (D 2))), (ha, .inl (cI, 30, .inl (D 3))), (b0, .inl (cI, 31, .inl (D 4))), (b1, .inl (cI, 31, .inl (D 5))), (b2, .inl (cI, 31, .inl (D 6))), (b3, .inl (cI, 31, .inl (D 7))), (b4, .inl (cI, 31, .inl (D 8))), (b5, .inl (cI, 31, .inl (D 9))), (b6, .inl (cI, 31, .inl (D 10)))]) [0, 1, 2, 3, 4, 5, 6, 7, 8, 9, 10, 11, 12] (by decide) rfl
  have hKc := hK.sub (tys' := [(cI, .int), (cR, .array .int)]) [0, 1] rfl
  have hFc := va_free (wc := [(mo, .inr (3, [.int (nI 0), .ref rr, .ref si, .ref nb, .ref ak, .ref ha])), (rr, .inl (cR, 7, .inr (.inr (.inr (.inr (RW [b0, b1, b2, b3, b4, b5, b6])))))), (si, .inl (cI, 7, .inl (D 0))), (nb, .inl (cI, 6, .inl (D 1))), (ak, .inl (cI, 30, .inl (D 2))), (ha, .inl (cI, 30, .inl (D 3))), (b0, .inl (cI, 31, .inl (D 4))), (b1, .inl (cI, 31, .inl (D 5))), (b2, .inl (cI, 31, .inl (D 6))), (b3, .inl (cI, 31, .inl (D 7))), (b4, .inl (cI, 31, .inl (D 8))), (b5, .inl (cI, 31, .inl (D 9))), (b6, .inl (cI, 31, .inl (D 10)))]) hD hS hA [0, 1, 2, 3, 4, 5, 6, 7, 8, 9, 10, 11, 12] rfl
  refine va_calli (va_runV (As := [.int (nI 1)]) (rest := [.long ((dg 1427 ((nI rc))) * 31)]) ⟨hx, hb, hml, hown, hts⟩ (c_X3_counted_1 l G cI cR mo rr si nb ak ha b0 b1 b2 b3 b4 b5 b6 (nI 0) D L1 L2 L3 L4 P M rc bo nA nH nP nM KA TA hM  H_3.size) (cwV 1 hts gX3_digest_X3_counted rfl rfl rfl (by decide +kernel) ⟨Nat.le_of_ble_eq_true rfl, Nat.le_of_ble_eq_true rfl⟩) (g_preV (As := [.int (nI 1)]) hPc hKc hDc 0 rfl rfl) rfl rfl hl.1 rfl (lv_room (Nat.le_of_ble_eq_true rfl)) dX3_digest_24 ⟨(Nat.le_of_ble_eq_true rfl), (Nat.le_of_ble_eq_true rfl)⟩) hS (fun q _ h => hFc q h) hFc (fun r_8 u_9 t H_7 locs ht hvm hw hB hz1 hk1 hS1 => ?_)
  have hw := hw.symm
  subst hw
  obtain ⟨hP1, hD1⟩ := g_join (wc := [(mo, .inr (3, [.int (nI 0), .ref rr, .ref si, .ref nb, .ref ak, .ref ha])), (rr, .inl (cR, 7, .inr (.inr (.inr (.inr (RW [b0, b1, b2, b3, b4, b5, b6])))))), (si, .inl (cI, 7, .inl (D 0))), (nb, .inl (cI, 6, .inl (D 1))), (ak, .inl (cI, 30, .inl (D 2))), (ha, .inl (cI, 30, .inl (D 3))), (b0, .inl (cI, 31, .inl (D 4))), (b1, .inl (cI, 31, .inl (D 5))), (b2, .inl (cI, 31, .inl (D 6))), (b3, .inl (cI, 31, .inl (D 7))), (b4, .inl (cI, 31, .inl (D 8))), (b5, .inl (cI, 31, .inl (D 9))), (b6, .inl (cI, 31, .inl (D 10)))]) (wr := []) (w1 := [(mo, .inr (3, [.int (nI 0), .ref rr, .ref si, .ref nb, .ref ak, .ref ha])), (rr, .inl (cR, 7, .inr (.inr (.inr (.inr (RW [b0, b1, b2, b3, b4, b5, b6])))))), (si, .inl (cI, 7, .inl (D 0))), (nb, .inl (cI, 6, .inl (D 1))), (ak, .inl (cI, 30, .inl (D 2))), (ha, .inl (cI, 30, .inl (D 3))), (b0, .inl (cI, 31, .inl (D 4))), (b1, .inl (cI, 31, .inl (D 5))), (b2, .inl (cI, 31, .inl (D 6))), (b3, .inl (cI, 31, .inl (D 7))), (b4, .inl (cI, 31, .inl (D 8))), (b5, .inl (cI, 31, .inl (D 9))), (b6, .inl (cI, 31, .inl (D 10)))]) hP hD [0, 1, 2, 3, 4, 5, 6, 7, 8, 9, 10, 11, 12] [] rfl rfl (by decide) (by decide) ht hk1 hFc hB
  clear hB hk1 hz1 hvm ht hPc hDc hKc hFc
  clear hP hD hS
  have hP : va_P G vwCl [(mo, .inr (3, [.int (nI 0), .ref rr, .ref si, .ref nb, .ref ak, .ref ha])), (rr, .inl (cR, 7, .inr (.inr (.inr (.inr (RW [b0, b1, b2, b3, b4, b5, b6])))))), (si, .inl (cI, 7, .inl (D 0))), (nb, .inl (cI, 6, .inl (D 1))), (ak, .inl (cI, 30, .inl (D 2))), (ha, .inl (cI, 30, .inl (D 3))), (b0, .inl (cI, 31, .inl (D 4))), (b1, .inl (cI, 31, .inl (D 5))), (b2, .inl (cI, 31, .inl (D 6))), (b3, .inl (cI, 31, .inl (D 7))), (b4, .inl (cI, 31, .inl (D 8))), (b5, .inl (cI, 31, .inl (D 9))), (b6, .inl (cI, 31, .inl (D 10)))] H_7 := hP1
  have hD : va_D A [(mo, .inr (3, [.int (nI 0), .ref rr, .ref si, .ref nb, .ref ak, .ref ha])), (rr, .inl (cR, 7, .inr (.inr (.inr (.inr (RW [b0, b1, b2, b3, b4, b5, b6])))))), (si, .inl (cI, 7, .inl (D 0))), (nb, .inl (cI, 6, .inl (D 1))), (ak, .inl (cI, 30, .inl (D 2))), (ha, .inl (cI, 30, .inl (D 3))), (b0, .inl (cI, 31, .inl (D 4))), (b1, .inl (cI, 31, .inl (D 5))), (b2, .inl (cI, 31, .inl (D 6))), (b3, .inl (cI, 31, .inl (D 7))), (b4, .inl (cI, 31, .inl (D 8))), (b5, .inl (cI, 31, .inl (D 9))), (b6, .inl (cI, 31, .inl (D 10)))] := hD1
  have hS := hS1
  clear hP1 hD1 hS1
  refine lv_i2l hx hb dX3_digest_27 rfl ?_
  refine lv_ladd hx hb dX3_digest_28 ?_
  refine lv_lstore_n (lv' := [(1, .long (dg (dg 1427 ((nI rc))) ((nI L1.length)))), (3, .int (nI 1)), (0, .ref mo)]) hx hb dX3_digest_29 rfl hl (by decide) rfl (fun ls hl1 => ?_)
  clear hl
  have hl := hl1
  clear hl1
  refine lv_iinc (v := (nI 2)) (lv' := [(3, .int (nI 2)), (1, .long (dg (dg 1427 ((nI rc))) ((nI L1.length)))), (0, .ref mo)]) hx hb dX3_digest_30 hl (k := 1) rfl (by decide +kernel) (by decide) rfl (fun ls hl => ?_)
  refine lv_goto (tgt := 11) hx hb dX3_digest_33 (by decide) ?_
  refine lv_iload_n hx hb dX3_digest_11 rfl (lv_at hl 0 rfl) ?_
  refine lv_bipush (v := (nI 12)) hx hb dX3_digest_12 (by decide +kernel) ?_
  refine g_icmp_ge (tgt := 36) hx hb dX3_digest_14 (by decide) (by decide) (by decide) (fun c_10 => False.elim (by omega)) (fun c_10 => ?_)
  refine lv_lload_n hx hb dX3_digest_17 rfl (lv_at hl 1 rfl) ?_
  refine lv_ldc2 (v := 31) hx hb hown (hts (.constantLong RX3 124 (31)) (by decide +kernel)) dX3_digest_18 ?_
  refine lv_lmul hx hb dX3_digest_21 ?_
  refine lv_aload_n hx hb dX3_digest_22 rfl (lv_at hl 2 rfl) ?_
  refine lv_iload_n hx hb dX3_digest_23 rfl (lv_at hl 0 rfl) ?_
  have hPc := hP.sub (ws' := [(mo, .inr (3, [.int (nI 0), .ref rr, .ref si, .ref nb, .ref ak, .ref ha])), (rr, .inl (cR, 7, .inr (.inr (.inr (.inr (RW [b0, b1, b2, b3, b4, b5, b6])))))), (si, .inl (cI, 7, .inl (D 0))), (nb, .inl (cI, 6, .inl (D 1))), (ak, .inl (cI, 30, .inl (D 2))), (ha, .inl (cI, 30, .inl (D 3))), (b0, .inl (cI, 31, .inl (D 4))), (b1, .inl (cI, 31, .inl (D 5))), (b2, .inl (cI, 31, .inl (D 6))), (b3, .inl (cI, 31, .inl (D 7))), (b4, .inl (cI, 31, .inl (D 8))), (b5, .inl (cI, 31, .inl (D 9))), (b6, .inl (cI, 31, .inl (D 10)))]) [0, 1, 2, 3, 4, 5, 6, 7, 8, 9, 10, 11, 12] rfl
  have hDc := hD.sub (ws' := [(mo, .inr (3, [.int (nI 0), .ref rr, .ref si, .ref nb, .ref ak, .ref ha])), (rr, .inl (cR, 7, .inr (.inr (.inr (.inr (RW [b0, b1, b2, b3, b4, b5, b6])))))), (si, .inl (cI, 7, .inl (D 0))), (nb, .inl (cI, 6, .inl (D 1))), (ak, .inl (cI, 30, .inl (D 2))), (ha, .inl (cI, 30, .inl (D 3))), (b0, .inl (cI, 31, .inl (D 4))), (b1, .inl (cI, 31, .inl (D 5))), (b2, .inl (cI, 31, .inl (D 6))), (b3, .inl (cI, 31, .inl (D 7))), (b4, .inl (cI, 31, .inl (D 8))), (b5, .inl (cI, 31, .inl (D 9))), (b6, .inl (cI, 31, .inl (D 10)))]) [0, 1, 2, 3, 4, 5, 6, 7, 8, 9, 10, 11, 12] (by decide) rfl
  have hKc := hK.sub (tys' := [(cI, .int), (cR, .array .int)]) [0, 1] rfl
  have hFc := va_free (wc := [(mo, .inr (3, [.int (nI 0), .ref rr, .ref si, .ref nb, .ref ak, .ref ha])), (rr, .inl (cR, 7, .inr (.inr (.inr (.inr (RW [b0, b1, b2, b3, b4, b5, b6])))))), (si, .inl (cI, 7, .inl (D 0))), (nb, .inl (cI, 6, .inl (D 1))), (ak, .inl (cI, 30, .inl (D 2))), (ha, .inl (cI, 30, .inl (D 3))), (b0, .inl (cI, 31, .inl (D 4))), (b1, .inl (cI, 31, .inl (D 5))), (b2, .inl (cI, 31, .inl (D 6))), (b3, .inl (cI, 31, .inl (D 7))), (b4, .inl (cI, 31, .inl (D 8))), (b5, .inl (cI, 31, .inl (D 9))), (b6, .inl (cI, 31, .inl (D 10)))]) hD hS hA [0, 1, 2, 3, 4, 5, 6, 7, 8, 9, 10, 11, 12] rfl
  refine va_calli (va_runV (As := [.int (nI 2)]) (rest := [.long ((dg (dg 1427 ((nI rc))) ((nI L1.length))) * 31)]) ⟨hx, hb, hml, hown, hts⟩ (c_X3_counted_2 l G cI cR mo rr si nb ak ha b0 b1 b2 b3 b4 b5 b6 (nI 0) D L1 L2 L3 L4 P M rc bo nA nH nP nM KA TA hM  H_7.size) (cwV 1 hts gX3_digest_X3_counted rfl rfl rfl (by decide +kernel) ⟨Nat.le_of_ble_eq_true rfl, Nat.le_of_ble_eq_true rfl⟩) (g_preV (As := [.int (nI 2)]) hPc hKc hDc 0 rfl rfl) rfl rfl hl.1 rfl (lv_room (Nat.le_of_ble_eq_true rfl)) dX3_digest_24 ⟨(Nat.le_of_ble_eq_true rfl), (Nat.le_of_ble_eq_true rfl)⟩) hS (fun q _ h => hFc q h) hFc (fun r_12 u_13 t H_11 locs ht hvm hw hB hz1 hk1 hS1 => ?_)
  have hw := hw.symm
  subst hw
  obtain ⟨hP1, hD1⟩ := g_join (wc := [(mo, .inr (3, [.int (nI 0), .ref rr, .ref si, .ref nb, .ref ak, .ref ha])), (rr, .inl (cR, 7, .inr (.inr (.inr (.inr (RW [b0, b1, b2, b3, b4, b5, b6])))))), (si, .inl (cI, 7, .inl (D 0))), (nb, .inl (cI, 6, .inl (D 1))), (ak, .inl (cI, 30, .inl (D 2))), (ha, .inl (cI, 30, .inl (D 3))), (b0, .inl (cI, 31, .inl (D 4))), (b1, .inl (cI, 31, .inl (D 5))), (b2, .inl (cI, 31, .inl (D 6))), (b3, .inl (cI, 31, .inl (D 7))), (b4, .inl (cI, 31, .inl (D 8))), (b5, .inl (cI, 31, .inl (D 9))), (b6, .inl (cI, 31, .inl (D 10)))]) (wr := []) (w1 := [(mo, .inr (3, [.int (nI 0), .ref rr, .ref si, .ref nb, .ref ak, .ref ha])), (rr, .inl (cR, 7, .inr (.inr (.inr (.inr (RW [b0, b1, b2, b3, b4, b5, b6])))))), (si, .inl (cI, 7, .inl (D 0))), (nb, .inl (cI, 6, .inl (D 1))), (ak, .inl (cI, 30, .inl (D 2))), (ha, .inl (cI, 30, .inl (D 3))), (b0, .inl (cI, 31, .inl (D 4))), (b1, .inl (cI, 31, .inl (D 5))), (b2, .inl (cI, 31, .inl (D 6))), (b3, .inl (cI, 31, .inl (D 7))), (b4, .inl (cI, 31, .inl (D 8))), (b5, .inl (cI, 31, .inl (D 9))), (b6, .inl (cI, 31, .inl (D 10)))]) hP hD [0, 1, 2, 3, 4, 5, 6, 7, 8, 9, 10, 11, 12] [] rfl rfl (by decide) (by decide) ht hk1 hFc hB
  clear hB hk1 hz1 hvm ht hPc hDc hKc hFc
  clear hP hD hS
  have hP : va_P G vwCl [(mo, .inr (3, [.int (nI 0), .ref rr, .ref si, .ref nb, .ref ak, .ref ha])), (rr, .inl (cR, 7, .inr (.inr (.inr (.inr (RW [b0, b1, b2, b3, b4, b5, b6])))))), (si, .inl (cI, 7, .inl (D 0))), (nb, .inl (cI, 6, .inl (D 1))), (ak, .inl (cI, 30, .inl (D 2))), (ha, .inl (cI, 30, .inl (D 3))), (b0, .inl (cI, 31, .inl (D 4))), (b1, .inl (cI, 31, .inl (D 5))), (b2, .inl (cI, 31, .inl (D 6))), (b3, .inl (cI, 31, .inl (D 7))), (b4, .inl (cI, 31, .inl (D 8))), (b5, .inl (cI, 31, .inl (D 9))), (b6, .inl (cI, 31, .inl (D 10)))] H_11 := hP1
  have hD : va_D A [(mo, .inr (3, [.int (nI 0), .ref rr, .ref si, .ref nb, .ref ak, .ref ha])), (rr, .inl (cR, 7, .inr (.inr (.inr (.inr (RW [b0, b1, b2, b3, b4, b5, b6])))))), (si, .inl (cI, 7, .inl (D 0))), (nb, .inl (cI, 6, .inl (D 1))), (ak, .inl (cI, 30, .inl (D 2))), (ha, .inl (cI, 30, .inl (D 3))), (b0, .inl (cI, 31, .inl (D 4))), (b1, .inl (cI, 31, .inl (D 5))), (b2, .inl (cI, 31, .inl (D 6))), (b3, .inl (cI, 31, .inl (D 7))), (b4, .inl (cI, 31, .inl (D 8))), (b5, .inl (cI, 31, .inl (D 9))), (b6, .inl (cI, 31, .inl (D 10)))] := hD1
  have hS := hS1
  clear hP1 hD1 hS1
  refine lv_i2l hx hb dX3_digest_27 rfl ?_
  refine lv_ladd hx hb dX3_digest_28 ?_
  refine lv_lstore_n (lv' := [(1, .long (dg (dg (dg 1427 ((nI rc))) ((nI L1.length))) ((nI L2.length)))), (3, .int (nI 2)), (0, .ref mo)]) hx hb dX3_digest_29 rfl hl (by decide) rfl (fun ls hl1 => ?_)
  clear hl
  have hl := hl1
  clear hl1
  refine lv_iinc (v := (nI 3)) (lv' := [(3, .int (nI 3)), (1, .long (dg (dg (dg 1427 ((nI rc))) ((nI L1.length))) ((nI L2.length)))), (0, .ref mo)]) hx hb dX3_digest_30 hl (k := 1) rfl (by decide +kernel) (by decide) rfl (fun ls hl => ?_)
  refine lv_goto (tgt := 11) hx hb dX3_digest_33 (by decide) ?_
  refine lv_iload_n hx hb dX3_digest_11 rfl (lv_at hl 0 rfl) ?_
  refine lv_bipush (v := (nI 12)) hx hb dX3_digest_12 (by decide +kernel) ?_
  refine g_icmp_ge (tgt := 36) hx hb dX3_digest_14 (by decide) (by decide) (by decide) (fun c_14 => False.elim (by omega)) (fun c_14 => ?_)
  refine lv_lload_n hx hb dX3_digest_17 rfl (lv_at hl 1 rfl) ?_
  refine lv_ldc2 (v := 31) hx hb hown (hts (.constantLong RX3 124 (31)) (by decide +kernel)) dX3_digest_18 ?_
  refine lv_lmul hx hb dX3_digest_21 ?_
  refine lv_aload_n hx hb dX3_digest_22 rfl (lv_at hl 2 rfl) ?_
  refine lv_iload_n hx hb dX3_digest_23 rfl (lv_at hl 0 rfl) ?_
  have hPc := hP.sub (ws' := [(mo, .inr (3, [.int (nI 0), .ref rr, .ref si, .ref nb, .ref ak, .ref ha])), (rr, .inl (cR, 7, .inr (.inr (.inr (.inr (RW [b0, b1, b2, b3, b4, b5, b6])))))), (si, .inl (cI, 7, .inl (D 0))), (nb, .inl (cI, 6, .inl (D 1))), (ak, .inl (cI, 30, .inl (D 2))), (ha, .inl (cI, 30, .inl (D 3))), (b0, .inl (cI, 31, .inl (D 4))), (b1, .inl (cI, 31, .inl (D 5))), (b2, .inl (cI, 31, .inl (D 6))), (b3, .inl (cI, 31, .inl (D 7))), (b4, .inl (cI, 31, .inl (D 8))), (b5, .inl (cI, 31, .inl (D 9))), (b6, .inl (cI, 31, .inl (D 10)))]) [0, 1, 2, 3, 4, 5, 6, 7, 8, 9, 10, 11, 12] rfl
  have hDc := hD.sub (ws' := [(mo, .inr (3, [.int (nI 0), .ref rr, .ref si, .ref nb, .ref ak, .ref ha])), (rr, .inl (cR, 7, .inr (.inr (.inr (.inr (RW [b0, b1, b2, b3, b4, b5, b6])))))), (si, .inl (cI, 7, .inl (D 0))), (nb, .inl (cI, 6, .inl (D 1))), (ak, .inl (cI, 30, .inl (D 2))), (ha, .inl (cI, 30, .inl (D 3))), (b0, .inl (cI, 31, .inl (D 4))), (b1, .inl (cI, 31, .inl (D 5))), (b2, .inl (cI, 31, .inl (D 6))), (b3, .inl (cI, 31, .inl (D 7))), (b4, .inl (cI, 31, .inl (D 8))), (b5, .inl (cI, 31, .inl (D 9))), (b6, .inl (cI, 31, .inl (D 10)))]) [0, 1, 2, 3, 4, 5, 6, 7, 8, 9, 10, 11, 12] (by decide) rfl
  have hKc := hK.sub (tys' := [(cI, .int), (cR, .array .int)]) [0, 1] rfl
  have hFc := va_free (wc := [(mo, .inr (3, [.int (nI 0), .ref rr, .ref si, .ref nb, .ref ak, .ref ha])), (rr, .inl (cR, 7, .inr (.inr (.inr (.inr (RW [b0, b1, b2, b3, b4, b5, b6])))))), (si, .inl (cI, 7, .inl (D 0))), (nb, .inl (cI, 6, .inl (D 1))), (ak, .inl (cI, 30, .inl (D 2))), (ha, .inl (cI, 30, .inl (D 3))), (b0, .inl (cI, 31, .inl (D 4))), (b1, .inl (cI, 31, .inl (D 5))), (b2, .inl (cI, 31, .inl (D 6))), (b3, .inl (cI, 31, .inl (D 7))), (b4, .inl (cI, 31, .inl (D 8))), (b5, .inl (cI, 31, .inl (D 9))), (b6, .inl (cI, 31, .inl (D 10)))]) hD hS hA [0, 1, 2, 3, 4, 5, 6, 7, 8, 9, 10, 11, 12] rfl
  refine va_calli (va_runV (As := [.int (nI 3)]) (rest := [.long ((dg (dg (dg 1427 ((nI rc))) ((nI L1.length))) ((nI L2.length))) * 31)]) ⟨hx, hb, hml, hown, hts⟩ (c_X3_counted_3 l G cI cR mo rr si nb ak ha b0 b1 b2 b3 b4 b5 b6 (nI 0) D L1 L2 L3 L4 P M rc bo nA nH nP nM KA TA hM  H_11.size) (cwV 1 hts gX3_digest_X3_counted rfl rfl rfl (by decide +kernel) ⟨Nat.le_of_ble_eq_true rfl, Nat.le_of_ble_eq_true rfl⟩) (g_preV (As := [.int (nI 3)]) hPc hKc hDc 0 rfl rfl) rfl rfl hl.1 rfl (lv_room (Nat.le_of_ble_eq_true rfl)) dX3_digest_24 ⟨(Nat.le_of_ble_eq_true rfl), (Nat.le_of_ble_eq_true rfl)⟩) hS (fun q _ h => hFc q h) hFc (fun r_16 u_17 t H_15 locs ht hvm hw hB hz1 hk1 hS1 => ?_)
  have hw := hw.symm
  subst hw
  obtain ⟨hP1, hD1⟩ := g_join (wc := [(mo, .inr (3, [.int (nI 0), .ref rr, .ref si, .ref nb, .ref ak, .ref ha])), (rr, .inl (cR, 7, .inr (.inr (.inr (.inr (RW [b0, b1, b2, b3, b4, b5, b6])))))), (si, .inl (cI, 7, .inl (D 0))), (nb, .inl (cI, 6, .inl (D 1))), (ak, .inl (cI, 30, .inl (D 2))), (ha, .inl (cI, 30, .inl (D 3))), (b0, .inl (cI, 31, .inl (D 4))), (b1, .inl (cI, 31, .inl (D 5))), (b2, .inl (cI, 31, .inl (D 6))), (b3, .inl (cI, 31, .inl (D 7))), (b4, .inl (cI, 31, .inl (D 8))), (b5, .inl (cI, 31, .inl (D 9))), (b6, .inl (cI, 31, .inl (D 10)))]) (wr := []) (w1 := [(mo, .inr (3, [.int (nI 0), .ref rr, .ref si, .ref nb, .ref ak, .ref ha])), (rr, .inl (cR, 7, .inr (.inr (.inr (.inr (RW [b0, b1, b2, b3, b4, b5, b6])))))), (si, .inl (cI, 7, .inl (D 0))), (nb, .inl (cI, 6, .inl (D 1))), (ak, .inl (cI, 30, .inl (D 2))), (ha, .inl (cI, 30, .inl (D 3))), (b0, .inl (cI, 31, .inl (D 4))), (b1, .inl (cI, 31, .inl (D 5))), (b2, .inl (cI, 31, .inl (D 6))), (b3, .inl (cI, 31, .inl (D 7))), (b4, .inl (cI, 31, .inl (D 8))), (b5, .inl (cI, 31, .inl (D 9))), (b6, .inl (cI, 31, .inl (D 10)))]) hP hD [0, 1, 2, 3, 4, 5, 6, 7, 8, 9, 10, 11, 12] [] rfl rfl (by decide) (by decide) ht hk1 hFc hB
  clear hB hk1 hz1 hvm ht hPc hDc hKc hFc
  clear hP hD hS
  have hP : va_P G vwCl [(mo, .inr (3, [.int (nI 0), .ref rr, .ref si, .ref nb, .ref ak, .ref ha])), (rr, .inl (cR, 7, .inr (.inr (.inr (.inr (RW [b0, b1, b2, b3, b4, b5, b6])))))), (si, .inl (cI, 7, .inl (D 0))), (nb, .inl (cI, 6, .inl (D 1))), (ak, .inl (cI, 30, .inl (D 2))), (ha, .inl (cI, 30, .inl (D 3))), (b0, .inl (cI, 31, .inl (D 4))), (b1, .inl (cI, 31, .inl (D 5))), (b2, .inl (cI, 31, .inl (D 6))), (b3, .inl (cI, 31, .inl (D 7))), (b4, .inl (cI, 31, .inl (D 8))), (b5, .inl (cI, 31, .inl (D 9))), (b6, .inl (cI, 31, .inl (D 10)))] H_15 := hP1
  have hD : va_D A [(mo, .inr (3, [.int (nI 0), .ref rr, .ref si, .ref nb, .ref ak, .ref ha])), (rr, .inl (cR, 7, .inr (.inr (.inr (.inr (RW [b0, b1, b2, b3, b4, b5, b6])))))), (si, .inl (cI, 7, .inl (D 0))), (nb, .inl (cI, 6, .inl (D 1))), (ak, .inl (cI, 30, .inl (D 2))), (ha, .inl (cI, 30, .inl (D 3))), (b0, .inl (cI, 31, .inl (D 4))), (b1, .inl (cI, 31, .inl (D 5))), (b2, .inl (cI, 31, .inl (D 6))), (b3, .inl (cI, 31, .inl (D 7))), (b4, .inl (cI, 31, .inl (D 8))), (b5, .inl (cI, 31, .inl (D 9))), (b6, .inl (cI, 31, .inl (D 10)))] := hD1
  have hS := hS1
  clear hP1 hD1 hS1
  refine lv_i2l hx hb dX3_digest_27 rfl ?_
  refine lv_ladd hx hb dX3_digest_28 ?_
  refine lv_lstore_n (lv' := [(1, .long (dg (dg (dg (dg 1427 ((nI rc))) ((nI L1.length))) ((nI L2.length))) ((nI L3.length)))), (3, .int (nI 3)), (0, .ref mo)]) hx hb dX3_digest_29 rfl hl (by decide) rfl (fun ls hl1 => ?_)
  clear hl
  have hl := hl1
  clear hl1
  refine lv_iinc (v := (nI 4)) (lv' := [(3, .int (nI 4)), (1, .long (dg (dg (dg (dg 1427 ((nI rc))) ((nI L1.length))) ((nI L2.length))) ((nI L3.length)))), (0, .ref mo)]) hx hb dX3_digest_30 hl (k := 1) rfl (by decide +kernel) (by decide) rfl (fun ls hl => ?_)
  refine lv_goto (tgt := 11) hx hb dX3_digest_33 (by decide) ?_
  refine lv_iload_n hx hb dX3_digest_11 rfl (lv_at hl 0 rfl) ?_
  refine lv_bipush (v := (nI 12)) hx hb dX3_digest_12 (by decide +kernel) ?_
  refine g_icmp_ge (tgt := 36) hx hb dX3_digest_14 (by decide) (by decide) (by decide) (fun c_18 => False.elim (by omega)) (fun c_18 => ?_)
  refine lv_lload_n hx hb dX3_digest_17 rfl (lv_at hl 1 rfl) ?_
  refine lv_ldc2 (v := 31) hx hb hown (hts (.constantLong RX3 124 (31)) (by decide +kernel)) dX3_digest_18 ?_
  refine lv_lmul hx hb dX3_digest_21 ?_
  refine lv_aload_n hx hb dX3_digest_22 rfl (lv_at hl 2 rfl) ?_
  refine lv_iload_n hx hb dX3_digest_23 rfl (lv_at hl 0 rfl) ?_
  have hPc := hP.sub (ws' := [(mo, .inr (3, [.int (nI 0), .ref rr, .ref si, .ref nb, .ref ak, .ref ha])), (rr, .inl (cR, 7, .inr (.inr (.inr (.inr (RW [b0, b1, b2, b3, b4, b5, b6])))))), (si, .inl (cI, 7, .inl (D 0))), (nb, .inl (cI, 6, .inl (D 1))), (ak, .inl (cI, 30, .inl (D 2))), (ha, .inl (cI, 30, .inl (D 3))), (b0, .inl (cI, 31, .inl (D 4))), (b1, .inl (cI, 31, .inl (D 5))), (b2, .inl (cI, 31, .inl (D 6))), (b3, .inl (cI, 31, .inl (D 7))), (b4, .inl (cI, 31, .inl (D 8))), (b5, .inl (cI, 31, .inl (D 9))), (b6, .inl (cI, 31, .inl (D 10)))]) [0, 1, 2, 3, 4, 5, 6, 7, 8, 9, 10, 11, 12] rfl
  have hDc := hD.sub (ws' := [(mo, .inr (3, [.int (nI 0), .ref rr, .ref si, .ref nb, .ref ak, .ref ha])), (rr, .inl (cR, 7, .inr (.inr (.inr (.inr (RW [b0, b1, b2, b3, b4, b5, b6])))))), (si, .inl (cI, 7, .inl (D 0))), (nb, .inl (cI, 6, .inl (D 1))), (ak, .inl (cI, 30, .inl (D 2))), (ha, .inl (cI, 30, .inl (D 3))), (b0, .inl (cI, 31, .inl (D 4))), (b1, .inl (cI, 31, .inl (D 5))), (b2, .inl (cI, 31, .inl (D 6))), (b3, .inl (cI, 31, .inl (D 7))), (b4, .inl (cI, 31, .inl (D 8))), (b5, .inl (cI, 31, .inl (D 9))), (b6, .inl (cI, 31, .inl (D 10)))]) [0, 1, 2, 3, 4, 5, 6, 7, 8, 9, 10, 11, 12] (by decide) rfl
  have hKc := hK.sub (tys' := [(cI, .int), (cR, .array .int)]) [0, 1] rfl
  have hFc := va_free (wc := [(mo, .inr (3, [.int (nI 0), .ref rr, .ref si, .ref nb, .ref ak, .ref ha])), (rr, .inl (cR, 7, .inr (.inr (.inr (.inr (RW [b0, b1, b2, b3, b4, b5, b6])))))), (si, .inl (cI, 7, .inl (D 0))), (nb, .inl (cI, 6, .inl (D 1))), (ak, .inl (cI, 30, .inl (D 2))), (ha, .inl (cI, 30, .inl (D 3))), (b0, .inl (cI, 31, .inl (D 4))), (b1, .inl (cI, 31, .inl (D 5))), (b2, .inl (cI, 31, .inl (D 6))), (b3, .inl (cI, 31, .inl (D 7))), (b4, .inl (cI, 31, .inl (D 8))), (b5, .inl (cI, 31, .inl (D 9))), (b6, .inl (cI, 31, .inl (D 10)))]) hD hS hA [0, 1, 2, 3, 4, 5, 6, 7, 8, 9, 10, 11, 12] rfl
  refine va_calli (va_runV (As := [.int (nI 4)]) (rest := [.long ((dg (dg (dg (dg 1427 ((nI rc))) ((nI L1.length))) ((nI L2.length))) ((nI L3.length))) * 31)]) ⟨hx, hb, hml, hown, hts⟩ (c_X3_counted_4 l G cI cR mo rr si nb ak ha b0 b1 b2 b3 b4 b5 b6 (nI 0) D L1 L2 L3 L4 P M rc bo nA nH nP nM KA TA hM  H_15.size) (cwV 1 hts gX3_digest_X3_counted rfl rfl rfl (by decide +kernel) ⟨Nat.le_of_ble_eq_true rfl, Nat.le_of_ble_eq_true rfl⟩) (g_preV (As := [.int (nI 4)]) hPc hKc hDc 0 rfl rfl) rfl rfl hl.1 rfl (lv_room (Nat.le_of_ble_eq_true rfl)) dX3_digest_24 ⟨(Nat.le_of_ble_eq_true rfl), (Nat.le_of_ble_eq_true rfl)⟩) hS (fun q _ h => hFc q h) hFc (fun r_20 u_21 t H_19 locs ht hvm hw hB hz1 hk1 hS1 => ?_)
  have hw := hw.symm
  subst hw
  obtain ⟨hP1, hD1⟩ := g_join (wc := [(mo, .inr (3, [.int (nI 0), .ref rr, .ref si, .ref nb, .ref ak, .ref ha])), (rr, .inl (cR, 7, .inr (.inr (.inr (.inr (RW [b0, b1, b2, b3, b4, b5, b6])))))), (si, .inl (cI, 7, .inl (D 0))), (nb, .inl (cI, 6, .inl (D 1))), (ak, .inl (cI, 30, .inl (D 2))), (ha, .inl (cI, 30, .inl (D 3))), (b0, .inl (cI, 31, .inl (D 4))), (b1, .inl (cI, 31, .inl (D 5))), (b2, .inl (cI, 31, .inl (D 6))), (b3, .inl (cI, 31, .inl (D 7))), (b4, .inl (cI, 31, .inl (D 8))), (b5, .inl (cI, 31, .inl (D 9))), (b6, .inl (cI, 31, .inl (D 10)))]) (wr := []) (w1 := [(mo, .inr (3, [.int (nI 0), .ref rr, .ref si, .ref nb, .ref ak, .ref ha])), (rr, .inl (cR, 7, .inr (.inr (.inr (.inr (RW [b0, b1, b2, b3, b4, b5, b6])))))), (si, .inl (cI, 7, .inl (D 0))), (nb, .inl (cI, 6, .inl (D 1))), (ak, .inl (cI, 30, .inl (D 2))), (ha, .inl (cI, 30, .inl (D 3))), (b0, .inl (cI, 31, .inl (D 4))), (b1, .inl (cI, 31, .inl (D 5))), (b2, .inl (cI, 31, .inl (D 6))), (b3, .inl (cI, 31, .inl (D 7))), (b4, .inl (cI, 31, .inl (D 8))), (b5, .inl (cI, 31, .inl (D 9))), (b6, .inl (cI, 31, .inl (D 10)))]) hP hD [0, 1, 2, 3, 4, 5, 6, 7, 8, 9, 10, 11, 12] [] rfl rfl (by decide) (by decide) ht hk1 hFc hB
  clear hB hk1 hz1 hvm ht hPc hDc hKc hFc
  clear hP hD hS
  have hP : va_P G vwCl [(mo, .inr (3, [.int (nI 0), .ref rr, .ref si, .ref nb, .ref ak, .ref ha])), (rr, .inl (cR, 7, .inr (.inr (.inr (.inr (RW [b0, b1, b2, b3, b4, b5, b6])))))), (si, .inl (cI, 7, .inl (D 0))), (nb, .inl (cI, 6, .inl (D 1))), (ak, .inl (cI, 30, .inl (D 2))), (ha, .inl (cI, 30, .inl (D 3))), (b0, .inl (cI, 31, .inl (D 4))), (b1, .inl (cI, 31, .inl (D 5))), (b2, .inl (cI, 31, .inl (D 6))), (b3, .inl (cI, 31, .inl (D 7))), (b4, .inl (cI, 31, .inl (D 8))), (b5, .inl (cI, 31, .inl (D 9))), (b6, .inl (cI, 31, .inl (D 10)))] H_19 := hP1
  have hD : va_D A [(mo, .inr (3, [.int (nI 0), .ref rr, .ref si, .ref nb, .ref ak, .ref ha])), (rr, .inl (cR, 7, .inr (.inr (.inr (.inr (RW [b0, b1, b2, b3, b4, b5, b6])))))), (si, .inl (cI, 7, .inl (D 0))), (nb, .inl (cI, 6, .inl (D 1))), (ak, .inl (cI, 30, .inl (D 2))), (ha, .inl (cI, 30, .inl (D 3))), (b0, .inl (cI, 31, .inl (D 4))), (b1, .inl (cI, 31, .inl (D 5))), (b2, .inl (cI, 31, .inl (D 6))), (b3, .inl (cI, 31, .inl (D 7))), (b4, .inl (cI, 31, .inl (D 8))), (b5, .inl (cI, 31, .inl (D 9))), (b6, .inl (cI, 31, .inl (D 10)))] := hD1
  have hS := hS1
  clear hP1 hD1 hS1
  refine lv_i2l hx hb dX3_digest_27 rfl ?_
  refine lv_ladd hx hb dX3_digest_28 ?_
  refine lv_lstore_n (lv' := [(1, .long (dg (dg (dg (dg (dg 1427 ((nI rc))) ((nI L1.length))) ((nI L2.length))) ((nI L3.length))) ((nI L4.length)))), (3, .int (nI 4)), (0, .ref mo)]) hx hb dX3_digest_29 rfl hl (by decide) rfl (fun ls hl1 => ?_)
  clear hl
  have hl := hl1
  clear hl1
  refine lv_iinc (v := (nI 5)) (lv' := [(3, .int (nI 5)), (1, .long (dg (dg (dg (dg (dg 1427 ((nI rc))) ((nI L1.length))) ((nI L2.length))) ((nI L3.length))) ((nI L4.length)))), (0, .ref mo)]) hx hb dX3_digest_30 hl (k := 1) rfl (by decide +kernel) (by decide) rfl (fun ls hl => ?_)
  refine lv_goto (tgt := 11) hx hb dX3_digest_33 (by decide) ?_
  refine lv_iload_n hx hb dX3_digest_11 rfl (lv_at hl 0 rfl) ?_
  refine lv_bipush (v := (nI 12)) hx hb dX3_digest_12 (by decide +kernel) ?_
  refine g_icmp_ge (tgt := 36) hx hb dX3_digest_14 (by decide) (by decide) (by decide) (fun c_22 => False.elim (by omega)) (fun c_22 => ?_)
  refine lv_lload_n hx hb dX3_digest_17 rfl (lv_at hl 1 rfl) ?_
  refine lv_ldc2 (v := 31) hx hb hown (hts (.constantLong RX3 124 (31)) (by decide +kernel)) dX3_digest_18 ?_
  refine lv_lmul hx hb dX3_digest_21 ?_
  refine lv_aload_n hx hb dX3_digest_22 rfl (lv_at hl 2 rfl) ?_
  refine lv_iload_n hx hb dX3_digest_23 rfl (lv_at hl 0 rfl) ?_
  have hPc := hP.sub (ws' := [(mo, .inr (3, [.int (nI 0), .ref rr, .ref si, .ref nb, .ref ak, .ref ha])), (rr, .inl (cR, 7, .inr (.inr (.inr (.inr (RW [b0, b1, b2, b3, b4, b5, b6])))))), (si, .inl (cI, 7, .inl (D 0))), (nb, .inl (cI, 6, .inl (D 1))), (ak, .inl (cI, 30, .inl (D 2))), (ha, .inl (cI, 30, .inl (D 3))), (b0, .inl (cI, 31, .inl (D 4))), (b1, .inl (cI, 31, .inl (D 5))), (b2, .inl (cI, 31, .inl (D 6))), (b3, .inl (cI, 31, .inl (D 7))), (b4, .inl (cI, 31, .inl (D 8))), (b5, .inl (cI, 31, .inl (D 9))), (b6, .inl (cI, 31, .inl (D 10)))]) [0, 1, 2, 3, 4, 5, 6, 7, 8, 9, 10, 11, 12] rfl
  have hDc := hD.sub (ws' := [(mo, .inr (3, [.int (nI 0), .ref rr, .ref si, .ref nb, .ref ak, .ref ha])), (rr, .inl (cR, 7, .inr (.inr (.inr (.inr (RW [b0, b1, b2, b3, b4, b5, b6])))))), (si, .inl (cI, 7, .inl (D 0))), (nb, .inl (cI, 6, .inl (D 1))), (ak, .inl (cI, 30, .inl (D 2))), (ha, .inl (cI, 30, .inl (D 3))), (b0, .inl (cI, 31, .inl (D 4))), (b1, .inl (cI, 31, .inl (D 5))), (b2, .inl (cI, 31, .inl (D 6))), (b3, .inl (cI, 31, .inl (D 7))), (b4, .inl (cI, 31, .inl (D 8))), (b5, .inl (cI, 31, .inl (D 9))), (b6, .inl (cI, 31, .inl (D 10)))]) [0, 1, 2, 3, 4, 5, 6, 7, 8, 9, 10, 11, 12] (by decide) rfl
  have hKc := hK.sub (tys' := [(cI, .int), (cR, .array .int)]) [0, 1] rfl
  have hFc := va_free (wc := [(mo, .inr (3, [.int (nI 0), .ref rr, .ref si, .ref nb, .ref ak, .ref ha])), (rr, .inl (cR, 7, .inr (.inr (.inr (.inr (RW [b0, b1, b2, b3, b4, b5, b6])))))), (si, .inl (cI, 7, .inl (D 0))), (nb, .inl (cI, 6, .inl (D 1))), (ak, .inl (cI, 30, .inl (D 2))), (ha, .inl (cI, 30, .inl (D 3))), (b0, .inl (cI, 31, .inl (D 4))), (b1, .inl (cI, 31, .inl (D 5))), (b2, .inl (cI, 31, .inl (D 6))), (b3, .inl (cI, 31, .inl (D 7))), (b4, .inl (cI, 31, .inl (D 8))), (b5, .inl (cI, 31, .inl (D 9))), (b6, .inl (cI, 31, .inl (D 10)))]) hD hS hA [0, 1, 2, 3, 4, 5, 6, 7, 8, 9, 10, 11, 12] rfl
  refine va_calli (va_runV (As := [.int (nI 5)]) (rest := [.long ((dg (dg (dg (dg (dg 1427 ((nI rc))) ((nI L1.length))) ((nI L2.length))) ((nI L3.length))) ((nI L4.length))) * 31)]) ⟨hx, hb, hml, hown, hts⟩ (c_X3_counted_5 l G cI cR mo rr si nb ak ha b0 b1 b2 b3 b4 b5 b6 (nI 0) D L1 L2 L3 L4 P M rc bo nA nH nP nM KA TA hM  H_19.size) (cwV 1 hts gX3_digest_X3_counted rfl rfl rfl (by decide +kernel) ⟨Nat.le_of_ble_eq_true rfl, Nat.le_of_ble_eq_true rfl⟩) (g_preV (As := [.int (nI 5)]) hPc hKc hDc 0 rfl rfl) rfl rfl hl.1 rfl (lv_room (Nat.le_of_ble_eq_true rfl)) dX3_digest_24 ⟨(Nat.le_of_ble_eq_true rfl), (Nat.le_of_ble_eq_true rfl)⟩) hS (fun q _ h => hFc q h) hFc (fun r_24 u_25 t H_23 locs ht hvm hw hB hz1 hk1 hS1 => ?_)
  have hw := hw.symm
  subst hw
  obtain ⟨hP1, hD1⟩ := g_join (wc := [(mo, .inr (3, [.int (nI 0), .ref rr, .ref si, .ref nb, .ref ak, .ref ha])), (rr, .inl (cR, 7, .inr (.inr (.inr (.inr (RW [b0, b1, b2, b3, b4, b5, b6])))))), (si, .inl (cI, 7, .inl (D 0))), (nb, .inl (cI, 6, .inl (D 1))), (ak, .inl (cI, 30, .inl (D 2))), (ha, .inl (cI, 30, .inl (D 3))), (b0, .inl (cI, 31, .inl (D 4))), (b1, .inl (cI, 31, .inl (D 5))), (b2, .inl (cI, 31, .inl (D 6))), (b3, .inl (cI, 31, .inl (D 7))), (b4, .inl (cI, 31, .inl (D 8))), (b5, .inl (cI, 31, .inl (D 9))), (b6, .inl (cI, 31, .inl (D 10)))]) (wr := []) (w1 := [(mo, .inr (3, [.int (nI 0), .ref rr, .ref si, .ref nb, .ref ak, .ref ha])), (rr, .inl (cR, 7, .inr (.inr (.inr (.inr (RW [b0, b1, b2, b3, b4, b5, b6])))))), (si, .inl (cI, 7, .inl (D 0))), (nb, .inl (cI, 6, .inl (D 1))), (ak, .inl (cI, 30, .inl (D 2))), (ha, .inl (cI, 30, .inl (D 3))), (b0, .inl (cI, 31, .inl (D 4))), (b1, .inl (cI, 31, .inl (D 5))), (b2, .inl (cI, 31, .inl (D 6))), (b3, .inl (cI, 31, .inl (D 7))), (b4, .inl (cI, 31, .inl (D 8))), (b5, .inl (cI, 31, .inl (D 9))), (b6, .inl (cI, 31, .inl (D 10)))]) hP hD [0, 1, 2, 3, 4, 5, 6, 7, 8, 9, 10, 11, 12] [] rfl rfl (by decide) (by decide) ht hk1 hFc hB
  clear hB hk1 hz1 hvm ht hPc hDc hKc hFc
  clear hP hD hS
  have hP : va_P G vwCl [(mo, .inr (3, [.int (nI 0), .ref rr, .ref si, .ref nb, .ref ak, .ref ha])), (rr, .inl (cR, 7, .inr (.inr (.inr (.inr (RW [b0, b1, b2, b3, b4, b5, b6])))))), (si, .inl (cI, 7, .inl (D 0))), (nb, .inl (cI, 6, .inl (D 1))), (ak, .inl (cI, 30, .inl (D 2))), (ha, .inl (cI, 30, .inl (D 3))), (b0, .inl (cI, 31, .inl (D 4))), (b1, .inl (cI, 31, .inl (D 5))), (b2, .inl (cI, 31, .inl (D 6))), (b3, .inl (cI, 31, .inl (D 7))), (b4, .inl (cI, 31, .inl (D 8))), (b5, .inl (cI, 31, .inl (D 9))), (b6, .inl (cI, 31, .inl (D 10)))] H_23 := hP1
  have hD : va_D A [(mo, .inr (3, [.int (nI 0), .ref rr, .ref si, .ref nb, .ref ak, .ref ha])), (rr, .inl (cR, 7, .inr (.inr (.inr (.inr (RW [b0, b1, b2, b3, b4, b5, b6])))))), (si, .inl (cI, 7, .inl (D 0))), (nb, .inl (cI, 6, .inl (D 1))), (ak, .inl (cI, 30, .inl (D 2))), (ha, .inl (cI, 30, .inl (D 3))), (b0, .inl (cI, 31, .inl (D 4))), (b1, .inl (cI, 31, .inl (D 5))), (b2, .inl (cI, 31, .inl (D 6))), (b3, .inl (cI, 31, .inl (D 7))), (b4, .inl (cI, 31, .inl (D 8))), (b5, .inl (cI, 31, .inl (D 9))), (b6, .inl (cI, 31, .inl (D 10)))] := hD1
  have hS := hS1
  clear hP1 hD1 hS1
  refine lv_i2l hx hb dX3_digest_27 rfl ?_
  refine lv_ladd hx hb dX3_digest_28 ?_
  refine lv_lstore_n (lv' := [(1, .long (dg (dg (dg (dg (dg (dg 1427 ((nI rc))) ((nI L1.length))) ((nI L2.length))) ((nI L3.length))) ((nI L4.length))) ((nI P.length)))), (3, .int (nI 5)), (0, .ref mo)]) hx hb dX3_digest_29 rfl hl (by decide) rfl (fun ls hl1 => ?_)
  clear hl
  have hl := hl1
  clear hl1
  refine lv_iinc (v := (nI 6)) (lv' := [(3, .int (nI 6)), (1, .long (dg (dg (dg (dg (dg (dg 1427 ((nI rc))) ((nI L1.length))) ((nI L2.length))) ((nI L3.length))) ((nI L4.length))) ((nI P.length)))), (0, .ref mo)]) hx hb dX3_digest_30 hl (k := 1) rfl (by decide +kernel) (by decide) rfl (fun ls hl => ?_)
  refine lv_goto (tgt := 11) hx hb dX3_digest_33 (by decide) ?_
  refine lv_iload_n hx hb dX3_digest_11 rfl (lv_at hl 0 rfl) ?_
  refine lv_bipush (v := (nI 12)) hx hb dX3_digest_12 (by decide +kernel) ?_
  refine g_icmp_ge (tgt := 36) hx hb dX3_digest_14 (by decide) (by decide) (by decide) (fun c_26 => False.elim (by omega)) (fun c_26 => ?_)
  refine lv_lload_n hx hb dX3_digest_17 rfl (lv_at hl 1 rfl) ?_
  refine lv_ldc2 (v := 31) hx hb hown (hts (.constantLong RX3 124 (31)) (by decide +kernel)) dX3_digest_18 ?_
  refine lv_lmul hx hb dX3_digest_21 ?_
  refine lv_aload_n hx hb dX3_digest_22 rfl (lv_at hl 2 rfl) ?_
  refine lv_iload_n hx hb dX3_digest_23 rfl (lv_at hl 0 rfl) ?_
  have hPc := hP.sub (ws' := [(mo, .inr (3, [.int (nI 0), .ref rr, .ref si, .ref nb, .ref ak, .ref ha])), (rr, .inl (cR, 7, .inr (.inr (.inr (.inr (RW [b0, b1, b2, b3, b4, b5, b6])))))), (si, .inl (cI, 7, .inl (D 0))), (nb, .inl (cI, 6, .inl (D 1))), (ak, .inl (cI, 30, .inl (D 2))), (ha, .inl (cI, 30, .inl (D 3))), (b0, .inl (cI, 31, .inl (D 4))), (b1, .inl (cI, 31, .inl (D 5))), (b2, .inl (cI, 31, .inl (D 6))), (b3, .inl (cI, 31, .inl (D 7))), (b4, .inl (cI, 31, .inl (D 8))), (b5, .inl (cI, 31, .inl (D 9))), (b6, .inl (cI, 31, .inl (D 10)))]) [0, 1, 2, 3, 4, 5, 6, 7, 8, 9, 10, 11, 12] rfl
  have hDc := hD.sub (ws' := [(mo, .inr (3, [.int (nI 0), .ref rr, .ref si, .ref nb, .ref ak, .ref ha])), (rr, .inl (cR, 7, .inr (.inr (.inr (.inr (RW [b0, b1, b2, b3, b4, b5, b6])))))), (si, .inl (cI, 7, .inl (D 0))), (nb, .inl (cI, 6, .inl (D 1))), (ak, .inl (cI, 30, .inl (D 2))), (ha, .inl (cI, 30, .inl (D 3))), (b0, .inl (cI, 31, .inl (D 4))), (b1, .inl (cI, 31, .inl (D 5))), (b2, .inl (cI, 31, .inl (D 6))), (b3, .inl (cI, 31, .inl (D 7))), (b4, .inl (cI, 31, .inl (D 8))), (b5, .inl (cI, 31, .inl (D 9))), (b6, .inl (cI, 31, .inl (D 10)))]) [0, 1, 2, 3, 4, 5, 6, 7, 8, 9, 10, 11, 12] (by decide) rfl
  have hKc := hK.sub (tys' := [(cI, .int), (cR, .array .int)]) [0, 1] rfl
  have hFc := va_free (wc := [(mo, .inr (3, [.int (nI 0), .ref rr, .ref si, .ref nb, .ref ak, .ref ha])), (rr, .inl (cR, 7, .inr (.inr (.inr (.inr (RW [b0, b1, b2, b3, b4, b5, b6])))))), (si, .inl (cI, 7, .inl (D 0))), (nb, .inl (cI, 6, .inl (D 1))), (ak, .inl (cI, 30, .inl (D 2))), (ha, .inl (cI, 30, .inl (D 3))), (b0, .inl (cI, 31, .inl (D 4))), (b1, .inl (cI, 31, .inl (D 5))), (b2, .inl (cI, 31, .inl (D 6))), (b3, .inl (cI, 31, .inl (D 7))), (b4, .inl (cI, 31, .inl (D 8))), (b5, .inl (cI, 31, .inl (D 9))), (b6, .inl (cI, 31, .inl (D 10)))]) hD hS hA [0, 1, 2, 3, 4, 5, 6, 7, 8, 9, 10, 11, 12] rfl
  refine va_calli (va_runV (As := [.int (nI 6)]) (rest := [.long ((dg (dg (dg (dg (dg (dg 1427 ((nI rc))) ((nI L1.length))) ((nI L2.length))) ((nI L3.length))) ((nI L4.length))) ((nI P.length))) * 31)]) ⟨hx, hb, hml, hown, hts⟩ (c_X3_counted_6 l G cI cR mo rr si nb ak ha b0 b1 b2 b3 b4 b5 b6 (nI 0) D L1 L2 L3 L4 P M rc bo nA nH nP nM KA TA hM  H_23.size) (cwV 1 hts gX3_digest_X3_counted rfl rfl rfl (by decide +kernel) ⟨Nat.le_of_ble_eq_true rfl, Nat.le_of_ble_eq_true rfl⟩) (g_preV (As := [.int (nI 6)]) hPc hKc hDc 0 rfl rfl) rfl rfl hl.1 rfl (lv_room (Nat.le_of_ble_eq_true rfl)) dX3_digest_24 ⟨(Nat.le_of_ble_eq_true rfl), (Nat.le_of_ble_eq_true rfl)⟩) hS (fun q _ h => hFc q h) hFc (fun r_28 u_29 t H_27 locs ht hvm hw hB hz1 hk1 hS1 => ?_)
  have hw := hw.symm
  subst hw
  obtain ⟨hP1, hD1⟩ := g_join (wc := [(mo, .inr (3, [.int (nI 0), .ref rr, .ref si, .ref nb, .ref ak, .ref ha])), (rr, .inl (cR, 7, .inr (.inr (.inr (.inr (RW [b0, b1, b2, b3, b4, b5, b6])))))), (si, .inl (cI, 7, .inl (D 0))), (nb, .inl (cI, 6, .inl (D 1))), (ak, .inl (cI, 30, .inl (D 2))), (ha, .inl (cI, 30, .inl (D 3))), (b0, .inl (cI, 31, .inl (D 4))), (b1, .inl (cI, 31, .inl (D 5))), (b2, .inl (cI, 31, .inl (D 6))), (b3, .inl (cI, 31, .inl (D 7))), (b4, .inl (cI, 31, .inl (D 8))), (b5, .inl (cI, 31, .inl (D 9))), (b6, .inl (cI, 31, .inl (D 10)))]) (wr := []) (w1 := [(mo, .inr (3, [.int (nI 0), .ref rr, .ref si, .ref nb, .ref ak, .ref ha])), (rr, .inl (cR, 7, .inr (.inr (.inr (.inr (RW [b0, b1, b2, b3, b4, b5, b6])))))), (si, .inl (cI, 7, .inl (D 0))), (nb, .inl (cI, 6, .inl (D 1))), (ak, .inl (cI, 30, .inl (D 2))), (ha, .inl (cI, 30, .inl (D 3))), (b0, .inl (cI, 31, .inl (D 4))), (b1, .inl (cI, 31, .inl (D 5))), (b2, .inl (cI, 31, .inl (D 6))), (b3, .inl (cI, 31, .inl (D 7))), (b4, .inl (cI, 31, .inl (D 8))), (b5, .inl (cI, 31, .inl (D 9))), (b6, .inl (cI, 31, .inl (D 10)))]) hP hD [0, 1, 2, 3, 4, 5, 6, 7, 8, 9, 10, 11, 12] [] rfl rfl (by decide) (by decide) ht hk1 hFc hB
  clear hB hk1 hz1 hvm ht hPc hDc hKc hFc
  clear hP hD hS
  have hP : va_P G vwCl [(mo, .inr (3, [.int (nI 0), .ref rr, .ref si, .ref nb, .ref ak, .ref ha])), (rr, .inl (cR, 7, .inr (.inr (.inr (.inr (RW [b0, b1, b2, b3, b4, b5, b6])))))), (si, .inl (cI, 7, .inl (D 0))), (nb, .inl (cI, 6, .inl (D 1))), (ak, .inl (cI, 30, .inl (D 2))), (ha, .inl (cI, 30, .inl (D 3))), (b0, .inl (cI, 31, .inl (D 4))), (b1, .inl (cI, 31, .inl (D 5))), (b2, .inl (cI, 31, .inl (D 6))), (b3, .inl (cI, 31, .inl (D 7))), (b4, .inl (cI, 31, .inl (D 8))), (b5, .inl (cI, 31, .inl (D 9))), (b6, .inl (cI, 31, .inl (D 10)))] H_27 := hP1
  have hD : va_D A [(mo, .inr (3, [.int (nI 0), .ref rr, .ref si, .ref nb, .ref ak, .ref ha])), (rr, .inl (cR, 7, .inr (.inr (.inr (.inr (RW [b0, b1, b2, b3, b4, b5, b6])))))), (si, .inl (cI, 7, .inl (D 0))), (nb, .inl (cI, 6, .inl (D 1))), (ak, .inl (cI, 30, .inl (D 2))), (ha, .inl (cI, 30, .inl (D 3))), (b0, .inl (cI, 31, .inl (D 4))), (b1, .inl (cI, 31, .inl (D 5))), (b2, .inl (cI, 31, .inl (D 6))), (b3, .inl (cI, 31, .inl (D 7))), (b4, .inl (cI, 31, .inl (D 8))), (b5, .inl (cI, 31, .inl (D 9))), (b6, .inl (cI, 31, .inl (D 10)))] := hD1
  have hS := hS1
  clear hP1 hD1 hS1
  refine lv_i2l hx hb dX3_digest_27 rfl ?_
  refine lv_ladd hx hb dX3_digest_28 ?_
  refine lv_lstore_n (lv' := [(1, .long (dg (dg (dg (dg (dg (dg (dg 1427 ((nI rc))) ((nI L1.length))) ((nI L2.length))) ((nI L3.length))) ((nI L4.length))) ((nI P.length))) ((nI M.length)))), (3, .int (nI 6)), (0, .ref mo)]) hx hb dX3_digest_29 rfl hl (by decide) rfl (fun ls hl1 => ?_)
  clear hl
  have hl := hl1
  clear hl1
  refine lv_iinc (v := (nI 7)) (lv' := [(3, .int (nI 7)), (1, .long (dg (dg (dg (dg (dg (dg (dg 1427 ((nI rc))) ((nI L1.length))) ((nI L2.length))) ((nI L3.length))) ((nI L4.length))) ((nI P.length))) ((nI M.length)))), (0, .ref mo)]) hx hb dX3_digest_30 hl (k := 1) rfl (by decide +kernel) (by decide) rfl (fun ls hl => ?_)
  refine lv_goto (tgt := 11) hx hb dX3_digest_33 (by decide) ?_
  refine lv_iload_n hx hb dX3_digest_11 rfl (lv_at hl 0 rfl) ?_
  refine lv_bipush (v := (nI 12)) hx hb dX3_digest_12 (by decide +kernel) ?_
  refine g_icmp_ge (tgt := 36) hx hb dX3_digest_14 (by decide) (by decide) (by decide) (fun c_30 => False.elim (by omega)) (fun c_30 => ?_)
  refine lv_lload_n hx hb dX3_digest_17 rfl (lv_at hl 1 rfl) ?_
  refine lv_ldc2 (v := 31) hx hb hown (hts (.constantLong RX3 124 (31)) (by decide +kernel)) dX3_digest_18 ?_
  refine lv_lmul hx hb dX3_digest_21 ?_
  refine lv_aload_n hx hb dX3_digest_22 rfl (lv_at hl 2 rfl) ?_
  refine lv_iload_n hx hb dX3_digest_23 rfl (lv_at hl 0 rfl) ?_
  have hPc := hP.sub (ws' := [(mo, .inr (3, [.int (nI 0), .ref rr, .ref si, .ref nb, .ref ak, .ref ha])), (rr, .inl (cR, 7, .inr (.inr (.inr (.inr (RW [b0, b1, b2, b3, b4, b5, b6])))))), (si, .inl (cI, 7, .inl (D 0))), (nb, .inl (cI, 6, .inl (D 1))), (ak, .inl (cI, 30, .inl (D 2))), (ha, .inl (cI, 30, .inl (D 3))), (b0, .inl (cI, 31, .inl (D 4))), (b1, .inl (cI, 31, .inl (D 5))), (b2, .inl (cI, 31, .inl (D 6))), (b3, .inl (cI, 31, .inl (D 7))), (b4, .inl (cI, 31, .inl (D 8))), (b5, .inl (cI, 31, .inl (D 9))), (b6, .inl (cI, 31, .inl (D 10)))]) [0, 1, 2, 3, 4, 5, 6, 7, 8, 9, 10, 11, 12] rfl
  have hDc := hD.sub (ws' := [(mo, .inr (3, [.int (nI 0), .ref rr, .ref si, .ref nb, .ref ak, .ref ha])), (rr, .inl (cR, 7, .inr (.inr (.inr (.inr (RW [b0, b1, b2, b3, b4, b5, b6])))))), (si, .inl (cI, 7, .inl (D 0))), (nb, .inl (cI, 6, .inl (D 1))), (ak, .inl (cI, 30, .inl (D 2))), (ha, .inl (cI, 30, .inl (D 3))), (b0, .inl (cI, 31, .inl (D 4))), (b1, .inl (cI, 31, .inl (D 5))), (b2, .inl (cI, 31, .inl (D 6))), (b3, .inl (cI, 31, .inl (D 7))), (b4, .inl (cI, 31, .inl (D 8))), (b5, .inl (cI, 31, .inl (D 9))), (b6, .inl (cI, 31, .inl (D 10)))]) [0, 1, 2, 3, 4, 5, 6, 7, 8, 9, 10, 11, 12] (by decide) rfl
  have hKc := hK.sub (tys' := [(cI, .int), (cR, .array .int)]) [0, 1] rfl
  have hFc := va_free (wc := [(mo, .inr (3, [.int (nI 0), .ref rr, .ref si, .ref nb, .ref ak, .ref ha])), (rr, .inl (cR, 7, .inr (.inr (.inr (.inr (RW [b0, b1, b2, b3, b4, b5, b6])))))), (si, .inl (cI, 7, .inl (D 0))), (nb, .inl (cI, 6, .inl (D 1))), (ak, .inl (cI, 30, .inl (D 2))), (ha, .inl (cI, 30, .inl (D 3))), (b0, .inl (cI, 31, .inl (D 4))), (b1, .inl (cI, 31, .inl (D 5))), (b2, .inl (cI, 31, .inl (D 6))), (b3, .inl (cI, 31, .inl (D 7))), (b4, .inl (cI, 31, .inl (D 8))), (b5, .inl (cI, 31, .inl (D 9))), (b6, .inl (cI, 31, .inl (D 10)))]) hD hS hA [0, 1, 2, 3, 4, 5, 6, 7, 8, 9, 10, 11, 12] rfl
  refine va_calli (va_runV (As := [.int (nI 7)]) (rest := [.long ((dg (dg (dg (dg (dg (dg (dg 1427 ((nI rc))) ((nI L1.length))) ((nI L2.length))) ((nI L3.length))) ((nI L4.length))) ((nI P.length))) ((nI M.length))) * 31)]) ⟨hx, hb, hml, hown, hts⟩ (c_X3_counted_7 l G cI cR mo rr si nb ak ha b0 b1 b2 b3 b4 b5 b6 (nI 0) D L1 L2 L3 L4 P M rc bo nA nH nP nM KA TA hM  H_27.size) (cwV 1 hts gX3_digest_X3_counted rfl rfl rfl (by decide +kernel) ⟨Nat.le_of_ble_eq_true rfl, Nat.le_of_ble_eq_true rfl⟩) (g_preV (As := [.int (nI 7)]) hPc hKc hDc 0 rfl rfl) rfl rfl hl.1 rfl (lv_room (Nat.le_of_ble_eq_true rfl)) dX3_digest_24 ⟨(Nat.le_of_ble_eq_true rfl), (Nat.le_of_ble_eq_true rfl)⟩) hS (fun q _ h => hFc q h) hFc (fun r_32 u_33 t H_31 locs ht hvm hw hB hz1 hk1 hS1 => ?_)
  have hw := hw.symm
  subst hw
  obtain ⟨hP1, hD1⟩ := g_join (wc := [(mo, .inr (3, [.int (nI 0), .ref rr, .ref si, .ref nb, .ref ak, .ref ha])), (rr, .inl (cR, 7, .inr (.inr (.inr (.inr (RW [b0, b1, b2, b3, b4, b5, b6])))))), (si, .inl (cI, 7, .inl (D 0))), (nb, .inl (cI, 6, .inl (D 1))), (ak, .inl (cI, 30, .inl (D 2))), (ha, .inl (cI, 30, .inl (D 3))), (b0, .inl (cI, 31, .inl (D 4))), (b1, .inl (cI, 31, .inl (D 5))), (b2, .inl (cI, 31, .inl (D 6))), (b3, .inl (cI, 31, .inl (D 7))), (b4, .inl (cI, 31, .inl (D 8))), (b5, .inl (cI, 31, .inl (D 9))), (b6, .inl (cI, 31, .inl (D 10)))]) (wr := []) (w1 := [(mo, .inr (3, [.int (nI 0), .ref rr, .ref si, .ref nb, .ref ak, .ref ha])), (rr, .inl (cR, 7, .inr (.inr (.inr (.inr (RW [b0, b1, b2, b3, b4, b5, b6])))))), (si, .inl (cI, 7, .inl (D 0))), (nb, .inl (cI, 6, .inl (D 1))), (ak, .inl (cI, 30, .inl (D 2))), (ha, .inl (cI, 30, .inl (D 3))), (b0, .inl (cI, 31, .inl (D 4))), (b1, .inl (cI, 31, .inl (D 5))), (b2, .inl (cI, 31, .inl (D 6))), (b3, .inl (cI, 31, .inl (D 7))), (b4, .inl (cI, 31, .inl (D 8))), (b5, .inl (cI, 31, .inl (D 9))), (b6, .inl (cI, 31, .inl (D 10)))]) hP hD [0, 1, 2, 3, 4, 5, 6, 7, 8, 9, 10, 11, 12] [] rfl rfl (by decide) (by decide) ht hk1 hFc hB
  clear hB hk1 hz1 hvm ht hPc hDc hKc hFc
  clear hP hD hS
  have hP : va_P G vwCl [(mo, .inr (3, [.int (nI 0), .ref rr, .ref si, .ref nb, .ref ak, .ref ha])), (rr, .inl (cR, 7, .inr (.inr (.inr (.inr (RW [b0, b1, b2, b3, b4, b5, b6])))))), (si, .inl (cI, 7, .inl (D 0))), (nb, .inl (cI, 6, .inl (D 1))), (ak, .inl (cI, 30, .inl (D 2))), (ha, .inl (cI, 30, .inl (D 3))), (b0, .inl (cI, 31, .inl (D 4))), (b1, .inl (cI, 31, .inl (D 5))), (b2, .inl (cI, 31, .inl (D 6))), (b3, .inl (cI, 31, .inl (D 7))), (b4, .inl (cI, 31, .inl (D 8))), (b5, .inl (cI, 31, .inl (D 9))), (b6, .inl (cI, 31, .inl (D 10)))] H_31 := hP1
  have hD : va_D A [(mo, .inr (3, [.int (nI 0), .ref rr, .ref si, .ref nb, .ref ak, .ref ha])), (rr, .inl (cR, 7, .inr (.inr (.inr (.inr (RW [b0, b1, b2, b3, b4, b5, b6])))))), (si, .inl (cI, 7, .inl (D 0))), (nb, .inl (cI, 6, .inl (D 1))), (ak, .inl (cI, 30, .inl (D 2))), (ha, .inl (cI, 30, .inl (D 3))), (b0, .inl (cI, 31, .inl (D 4))), (b1, .inl (cI, 31, .inl (D 5))), (b2, .inl (cI, 31, .inl (D 6))), (b3, .inl (cI, 31, .inl (D 7))), (b4, .inl (cI, 31, .inl (D 8))), (b5, .inl (cI, 31, .inl (D 9))), (b6, .inl (cI, 31, .inl (D 10)))] := hD1
  have hS := hS1
  clear hP1 hD1 hS1
  refine lv_i2l hx hb dX3_digest_27 rfl ?_
  refine lv_ladd hx hb dX3_digest_28 ?_
  refine lv_lstore_n (lv' := [(1, .long (dg (dg (dg (dg (dg (dg (dg (dg 1427 ((nI rc))) ((nI L1.length))) ((nI L2.length))) ((nI L3.length))) ((nI L4.length))) ((nI P.length))) ((nI M.length))) ((nI bo)))), (3, .int (nI 7)), (0, .ref mo)]) hx hb dX3_digest_29 rfl hl (by decide) rfl (fun ls hl1 => ?_)
  clear hl
  have hl := hl1
  clear hl1
  refine lv_iinc (v := (nI 8)) (lv' := [(3, .int (nI 8)), (1, .long (dg (dg (dg (dg (dg (dg (dg (dg 1427 ((nI rc))) ((nI L1.length))) ((nI L2.length))) ((nI L3.length))) ((nI L4.length))) ((nI P.length))) ((nI M.length))) ((nI bo)))), (0, .ref mo)]) hx hb dX3_digest_30 hl (k := 1) rfl (by decide +kernel) (by decide) rfl (fun ls hl => ?_)
  refine lv_goto (tgt := 11) hx hb dX3_digest_33 (by decide) ?_
  refine lv_iload_n hx hb dX3_digest_11 rfl (lv_at hl 0 rfl) ?_
  refine lv_bipush (v := (nI 12)) hx hb dX3_digest_12 (by decide +kernel) ?_
  refine g_icmp_ge (tgt := 36) hx hb dX3_digest_14 (by decide) (by decide) (by decide) (fun c_34 => False.elim (by omega)) (fun c_34 => ?_)
  refine lv_lload_n hx hb dX3_digest_17 rfl (lv_at hl 1 rfl) ?_
  refine lv_ldc2 (v := 31) hx hb hown (hts (.constantLong RX3 124 (31)) (by decide +kernel)) dX3_digest_18 ?_
  refine lv_lmul hx hb dX3_digest_21 ?_
  refine lv_aload_n hx hb dX3_digest_22 rfl (lv_at hl 2 rfl) ?_
  refine lv_iload_n hx hb dX3_digest_23 rfl (lv_at hl 0 rfl) ?_
  have hPc := hP.sub (ws' := [(mo, .inr (3, [.int (nI 0), .ref rr, .ref si, .ref nb, .ref ak, .ref ha])), (rr, .inl (cR, 7, .inr (.inr (.inr (.inr (RW [b0, b1, b2, b3, b4, b5, b6])))))), (si, .inl (cI, 7, .inl (D 0))), (nb, .inl (cI, 6, .inl (D 1))), (ak, .inl (cI, 30, .inl (D 2))), (ha, .inl (cI, 30, .inl (D 3))), (b0, .inl (cI, 31, .inl (D 4))), (b1, .inl (cI, 31, .inl (D 5))), (b2, .inl (cI, 31, .inl (D 6))), (b3, .inl (cI, 31, .inl (D 7))), (b4, .inl (cI, 31, .inl (D 8))), (b5, .inl (cI, 31, .inl (D 9))), (b6, .inl (cI, 31, .inl (D 10)))]) [0, 1, 2, 3, 4, 5, 6, 7, 8, 9, 10, 11, 12] rfl
  have hDc := hD.sub (ws' := [(mo, .inr (3, [.int (nI 0), .ref rr, .ref si, .ref nb, .ref ak, .ref ha])), (rr, .inl (cR, 7, .inr (.inr (.inr (.inr (RW [b0, b1, b2, b3, b4, b5, b6])))))), (si, .inl (cI, 7, .inl (D 0))), (nb, .inl (cI, 6, .inl (D 1))), (ak, .inl (cI, 30, .inl (D 2))), (ha, .inl (cI, 30, .inl (D 3))), (b0, .inl (cI, 31, .inl (D 4))), (b1, .inl (cI, 31, .inl (D 5))), (b2, .inl (cI, 31, .inl (D 6))), (b3, .inl (cI, 31, .inl (D 7))), (b4, .inl (cI, 31, .inl (D 8))), (b5, .inl (cI, 31, .inl (D 9))), (b6, .inl (cI, 31, .inl (D 10)))]) [0, 1, 2, 3, 4, 5, 6, 7, 8, 9, 10, 11, 12] (by decide) rfl
  have hKc := hK.sub (tys' := [(cI, .int), (cR, .array .int)]) [0, 1] rfl
  have hFc := va_free (wc := [(mo, .inr (3, [.int (nI 0), .ref rr, .ref si, .ref nb, .ref ak, .ref ha])), (rr, .inl (cR, 7, .inr (.inr (.inr (.inr (RW [b0, b1, b2, b3, b4, b5, b6])))))), (si, .inl (cI, 7, .inl (D 0))), (nb, .inl (cI, 6, .inl (D 1))), (ak, .inl (cI, 30, .inl (D 2))), (ha, .inl (cI, 30, .inl (D 3))), (b0, .inl (cI, 31, .inl (D 4))), (b1, .inl (cI, 31, .inl (D 5))), (b2, .inl (cI, 31, .inl (D 6))), (b3, .inl (cI, 31, .inl (D 7))), (b4, .inl (cI, 31, .inl (D 8))), (b5, .inl (cI, 31, .inl (D 9))), (b6, .inl (cI, 31, .inl (D 10)))]) hD hS hA [0, 1, 2, 3, 4, 5, 6, 7, 8, 9, 10, 11, 12] rfl
  refine va_calli (va_runV (As := [.int (nI 8)]) (rest := [.long ((dg (dg (dg (dg (dg (dg (dg (dg 1427 ((nI rc))) ((nI L1.length))) ((nI L2.length))) ((nI L3.length))) ((nI L4.length))) ((nI P.length))) ((nI M.length))) ((nI bo))) * 31)]) ⟨hx, hb, hml, hown, hts⟩ (c_X3_counted_8 l G cI cR mo rr si nb ak ha b0 b1 b2 b3 b4 b5 b6 (nI 0) D L1 L2 L3 L4 P M rc bo nA nH nP nM KA TA hM  H_31.size) (cwV 1 hts gX3_digest_X3_counted rfl rfl rfl (by decide +kernel) ⟨Nat.le_of_ble_eq_true rfl, Nat.le_of_ble_eq_true rfl⟩) (g_preV (As := [.int (nI 8)]) hPc hKc hDc 0 rfl rfl) rfl rfl hl.1 rfl (lv_room (Nat.le_of_ble_eq_true rfl)) dX3_digest_24 ⟨(Nat.le_of_ble_eq_true rfl), (Nat.le_of_ble_eq_true rfl)⟩) hS (fun q _ h => hFc q h) hFc (fun r_36 u_37 t H_35 locs ht hvm hw hB hz1 hk1 hS1 => ?_)
  have hw := hw.symm
  subst hw
  obtain ⟨hP1, hD1⟩ := g_join (wc := [(mo, .inr (3, [.int (nI 0), .ref rr, .ref si, .ref nb, .ref ak, .ref ha])), (rr, .inl (cR, 7, .inr (.inr (.inr (.inr (RW [b0, b1, b2, b3, b4, b5, b6])))))), (si, .inl (cI, 7, .inl (D 0))), (nb, .inl (cI, 6, .inl (D 1))), (ak, .inl (cI, 30, .inl (D 2))), (ha, .inl (cI, 30, .inl (D 3))), (b0, .inl (cI, 31, .inl (D 4))), (b1, .inl (cI, 31, .inl (D 5))), (b2, .inl (cI, 31, .inl (D 6))), (b3, .inl (cI, 31, .inl (D 7))), (b4, .inl (cI, 31, .inl (D 8))), (b5, .inl (cI, 31, .inl (D 9))), (b6, .inl (cI, 31, .inl (D 10)))]) (wr := []) (w1 := [(mo, .inr (3, [.int (nI 0), .ref rr, .ref si, .ref nb, .ref ak, .ref ha])), (rr, .inl (cR, 7, .inr (.inr (.inr (.inr (RW [b0, b1, b2, b3, b4, b5, b6])))))), (si, .inl (cI, 7, .inl (D 0))), (nb, .inl (cI, 6, .inl (D 1))), (ak, .inl (cI, 30, .inl (D 2))), (ha, .inl (cI, 30, .inl (D 3))), (b0, .inl (cI, 31, .inl (D 4))), (b1, .inl (cI, 31, .inl (D 5))), (b2, .inl (cI, 31, .inl (D 6))), (b3, .inl (cI, 31, .inl (D 7))), (b4, .inl (cI, 31, .inl (D 8))), (b5, .inl (cI, 31, .inl (D 9))), (b6, .inl (cI, 31, .inl (D 10)))]) hP hD [0, 1, 2, 3, 4, 5, 6, 7, 8, 9, 10, 11, 12] [] rfl rfl (by decide) (by decide) ht hk1 hFc hB
  clear hB hk1 hz1 hvm ht hPc hDc hKc hFc
  clear hP hD hS
  have hP : va_P G vwCl [(mo, .inr (3, [.int (nI 0), .ref rr, .ref si, .ref nb, .ref ak, .ref ha])), (rr, .inl (cR, 7, .inr (.inr (.inr (.inr (RW [b0, b1, b2, b3, b4, b5, b6])))))), (si, .inl (cI, 7, .inl (D 0))), (nb, .inl (cI, 6, .inl (D 1))), (ak, .inl (cI, 30, .inl (D 2))), (ha, .inl (cI, 30, .inl (D 3))), (b0, .inl (cI, 31, .inl (D 4))), (b1, .inl (cI, 31, .inl (D 5))), (b2, .inl (cI, 31, .inl (D 6))), (b3, .inl (cI, 31, .inl (D 7))), (b4, .inl (cI, 31, .inl (D 8))), (b5, .inl (cI, 31, .inl (D 9))), (b6, .inl (cI, 31, .inl (D 10)))] H_35 := hP1
  have hD : va_D A [(mo, .inr (3, [.int (nI 0), .ref rr, .ref si, .ref nb, .ref ak, .ref ha])), (rr, .inl (cR, 7, .inr (.inr (.inr (.inr (RW [b0, b1, b2, b3, b4, b5, b6])))))), (si, .inl (cI, 7, .inl (D 0))), (nb, .inl (cI, 6, .inl (D 1))), (ak, .inl (cI, 30, .inl (D 2))), (ha, .inl (cI, 30, .inl (D 3))), (b0, .inl (cI, 31, .inl (D 4))), (b1, .inl (cI, 31, .inl (D 5))), (b2, .inl (cI, 31, .inl (D 6))), (b3, .inl (cI, 31, .inl (D 7))), (b4, .inl (cI, 31, .inl (D 8))), (b5, .inl (cI, 31, .inl (D 9))), (b6, .inl (cI, 31, .inl (D 10)))] := hD1
  have hS := hS1
  clear hP1 hD1 hS1
  refine lv_i2l hx hb dX3_digest_27 rfl ?_
  refine lv_ladd hx hb dX3_digest_28 ?_
  refine lv_lstore_n (lv' := [(1, .long (dg (dg (dg (dg (dg (dg (dg (dg (dg 1427 ((nI rc))) ((nI L1.length))) ((nI L2.length))) ((nI L3.length))) ((nI L4.length))) ((nI P.length))) ((nI M.length))) ((nI bo))) (nA))), (3, .int (nI 8)), (0, .ref mo)]) hx hb dX3_digest_29 rfl hl (by decide) rfl (fun ls hl1 => ?_)
  clear hl
  have hl := hl1
  clear hl1
  refine lv_iinc (v := (nI 9)) (lv' := [(3, .int (nI 9)), (1, .long (dg (dg (dg (dg (dg (dg (dg (dg (dg 1427 ((nI rc))) ((nI L1.length))) ((nI L2.length))) ((nI L3.length))) ((nI L4.length))) ((nI P.length))) ((nI M.length))) ((nI bo))) (nA))), (0, .ref mo)]) hx hb dX3_digest_30 hl (k := 1) rfl (by decide +kernel) (by decide) rfl (fun ls hl => ?_)
  refine lv_goto (tgt := 11) hx hb dX3_digest_33 (by decide) ?_
  refine lv_iload_n hx hb dX3_digest_11 rfl (lv_at hl 0 rfl) ?_
  refine lv_bipush (v := (nI 12)) hx hb dX3_digest_12 (by decide +kernel) ?_
  refine g_icmp_ge (tgt := 36) hx hb dX3_digest_14 (by decide) (by decide) (by decide) (fun c_38 => False.elim (by omega)) (fun c_38 => ?_)
  refine lv_lload_n hx hb dX3_digest_17 rfl (lv_at hl 1 rfl) ?_
  refine lv_ldc2 (v := 31) hx hb hown (hts (.constantLong RX3 124 (31)) (by decide +kernel)) dX3_digest_18 ?_
  refine lv_lmul hx hb dX3_digest_21 ?_
  refine lv_aload_n hx hb dX3_digest_22 rfl (lv_at hl 2 rfl) ?_
  refine lv_iload_n hx hb dX3_digest_23 rfl (lv_at hl 0 rfl) ?_
  have hPc := hP.sub (ws' := [(mo, .inr (3, [.int (nI 0), .ref rr, .ref si, .ref nb, .ref ak, .ref ha])), (rr, .inl (cR, 7, .inr (.inr (.inr (.inr (RW [b0, b1, b2, b3, b4, b5, b6])))))), (si, .inl (cI, 7, .inl (D 0))), (nb, .inl (cI, 6, .inl (D 1))), (ak, .inl (cI, 30, .inl (D 2))), (ha, .inl (cI, 30, .inl (D 3))), (b0, .inl (cI, 31, .inl (D 4))), (b1, .inl (cI, 31, .inl (D 5))), (b2, .inl (cI, 31, .inl (D 6))), (b3, .inl (cI, 31, .inl (D 7))), (b4, .inl (cI, 31, .inl (D 8))), (b5, .inl (cI, 31, .inl (D 9))), (b6, .inl (cI, 31, .inl (D 10)))]) [0, 1, 2, 3, 4, 5, 6, 7, 8, 9, 10, 11, 12] rfl
  have hDc := hD.sub (ws' := [(mo, .inr (3, [.int (nI 0), .ref rr, .ref si, .ref nb, .ref ak, .ref ha])), (rr, .inl (cR, 7, .inr (.inr (.inr (.inr (RW [b0, b1, b2, b3, b4, b5, b6])))))), (si, .inl (cI, 7, .inl (D 0))), (nb, .inl (cI, 6, .inl (D 1))), (ak, .inl (cI, 30, .inl (D 2))), (ha, .inl (cI, 30, .inl (D 3))), (b0, .inl (cI, 31, .inl (D 4))), (b1, .inl (cI, 31, .inl (D 5))), (b2, .inl (cI, 31, .inl (D 6))), (b3, .inl (cI, 31, .inl (D 7))), (b4, .inl (cI, 31, .inl (D 8))), (b5, .inl (cI, 31, .inl (D 9))), (b6, .inl (cI, 31, .inl (D 10)))]) [0, 1, 2, 3, 4, 5, 6, 7, 8, 9, 10, 11, 12] (by decide) rfl
  have hKc := hK.sub (tys' := [(cI, .int), (cR, .array .int)]) [0, 1] rfl
  have hFc := va_free (wc := [(mo, .inr (3, [.int (nI 0), .ref rr, .ref si, .ref nb, .ref ak, .ref ha])), (rr, .inl (cR, 7, .inr (.inr (.inr (.inr (RW [b0, b1, b2, b3, b4, b5, b6])))))), (si, .inl (cI, 7, .inl (D 0))), (nb, .inl (cI, 6, .inl (D 1))), (ak, .inl (cI, 30, .inl (D 2))), (ha, .inl (cI, 30, .inl (D 3))), (b0, .inl (cI, 31, .inl (D 4))), (b1, .inl (cI, 31, .inl (D 5))), (b2, .inl (cI, 31, .inl (D 6))), (b3, .inl (cI, 31, .inl (D 7))), (b4, .inl (cI, 31, .inl (D 8))), (b5, .inl (cI, 31, .inl (D 9))), (b6, .inl (cI, 31, .inl (D 10)))]) hD hS hA [0, 1, 2, 3, 4, 5, 6, 7, 8, 9, 10, 11, 12] rfl
  refine va_calli (va_runV (As := [.int (nI 9)]) (rest := [.long ((dg (dg (dg (dg (dg (dg (dg (dg (dg 1427 ((nI rc))) ((nI L1.length))) ((nI L2.length))) ((nI L3.length))) ((nI L4.length))) ((nI P.length))) ((nI M.length))) ((nI bo))) (nA)) * 31)]) ⟨hx, hb, hml, hown, hts⟩ (c_X3_counted_9 l G cI cR mo rr si nb ak ha b0 b1 b2 b3 b4 b5 b6 (nI 0) D L1 L2 L3 L4 P M rc bo nA nH nP nM KA TA hM  H_35.size) (cwV 1 hts gX3_digest_X3_counted rfl rfl rfl (by decide +kernel) ⟨Nat.le_of_ble_eq_true rfl, Nat.le_of_ble_eq_true rfl⟩) (g_preV (As := [.int (nI 9)]) hPc hKc hDc 0 rfl rfl) rfl rfl hl.1 rfl (lv_room (Nat.le_of_ble_eq_true rfl)) dX3_digest_24 ⟨(Nat.le_of_ble_eq_true rfl), (Nat.le_of_ble_eq_true rfl)⟩) hS (fun q _ h => hFc q h) hFc (fun r_40 u_41 t H_39 locs ht hvm hw hB hz1 hk1 hS1 => ?_)
  have hw := hw.symm
  subst hw
  obtain ⟨hP1, hD1⟩ := g_join (wc := [(mo, .inr (3, [.int (nI 0), .ref rr, .ref si, .ref nb, .ref ak, .ref ha])), (rr, .inl (cR, 7, .inr (.inr (.inr (.inr (RW [b0, b1, b2, b3, b4, b5, b6])))))), (si, .inl (cI, 7, .inl (D 0))), (nb, .inl (cI, 6, .inl (D 1))), (ak, .inl (cI, 30, .inl (D 2))), (ha, .inl (cI, 30, .inl (D 3))), (b0, .inl (cI, 31, .inl (D 4))), (b1, .inl (cI, 31, .inl (D 5))), (b2, .inl (cI, 31, .inl (D 6))), (b3, .inl (cI, 31, .inl (D 7))), (b4, .inl (cI, 31, .inl (D 8))), (b5, .inl (cI, 31, .inl (D 9))), (b6, .inl (cI, 31, .inl (D 10)))]) (wr := []) (w1 := [(mo, .inr (3, [.int (nI 0), .ref rr, .ref si, .ref nb, .ref ak, .ref ha])), (rr, .inl (cR, 7, .inr (.inr (.inr (.inr (RW [b0, b1, b2, b3, b4, b5, b6])))))), (si, .inl (cI, 7, .inl (D 0))), (nb, .inl (cI, 6, .inl (D 1))), (ak, .inl (cI, 30, .inl (D 2))), (ha, .inl (cI, 30, .inl (D 3))), (b0, .inl (cI, 31, .inl (D 4))), (b1, .inl (cI, 31, .inl (D 5))), (b2, .inl (cI, 31, .inl (D 6))), (b3, .inl (cI, 31, .inl (D 7))), (b4, .inl (cI, 31, .inl (D 8))), (b5, .inl (cI, 31, .inl (D 9))), (b6, .inl (cI, 31, .inl (D 10)))]) hP hD [0, 1, 2, 3, 4, 5, 6, 7, 8, 9, 10, 11, 12] [] rfl rfl (by decide) (by decide) ht hk1 hFc hB
  clear hB hk1 hz1 hvm ht hPc hDc hKc hFc
  clear hP hD hS
  have hP : va_P G vwCl [(mo, .inr (3, [.int (nI 0), .ref rr, .ref si, .ref nb, .ref ak, .ref ha])), (rr, .inl (cR, 7, .inr (.inr (.inr (.inr (RW [b0, b1, b2, b3, b4, b5, b6])))))), (si, .inl (cI, 7, .inl (D 0))), (nb, .inl (cI, 6, .inl (D 1))), (ak, .inl (cI, 30, .inl (D 2))), (ha, .inl (cI, 30, .inl (D 3))), (b0, .inl (cI, 31, .inl (D 4))), (b1, .inl (cI, 31, .inl (D 5))), (b2, .inl (cI, 31, .inl (D 6))), (b3, .inl (cI, 31, .inl (D 7))), (b4, .inl (cI, 31, .inl (D 8))), (b5, .inl (cI, 31, .inl (D 9))), (b6, .inl (cI, 31, .inl (D 10)))] H_39 := hP1
  have hD : va_D A [(mo, .inr (3, [.int (nI 0), .ref rr, .ref si, .ref nb, .ref ak, .ref ha])), (rr, .inl (cR, 7, .inr (.inr (.inr (.inr (RW [b0, b1, b2, b3, b4, b5, b6])))))), (si, .inl (cI, 7, .inl (D 0))), (nb, .inl (cI, 6, .inl (D 1))), (ak, .inl (cI, 30, .inl (D 2))), (ha, .inl (cI, 30, .inl (D 3))), (b0, .inl (cI, 31, .inl (D 4))), (b1, .inl (cI, 31, .inl (D 5))), (b2, .inl (cI, 31, .inl (D 6))), (b3, .inl (cI, 31, .inl (D 7))), (b4, .inl (cI, 31, .inl (D 8))), (b5, .inl (cI, 31, .inl (D 9))), (b6, .inl (cI, 31, .inl (D 10)))] := hD1
  have hS := hS1
  clear hP1 hD1 hS1
  refine lv_i2l hx hb dX3_digest_27 rfl ?_
  refine lv_ladd hx hb dX3_digest_28 ?_
  refine lv_lstore_n (lv' := [(1, .long (dg (dg (dg (dg (dg (dg (dg (dg (dg (dg 1427 ((nI rc))) ((nI L1.length))) ((nI L2.length))) ((nI L3.length))) ((nI L4.length))) ((nI P.length))) ((nI M.length))) ((nI bo))) (nA)) (nH))), (3, .int (nI 9)), (0, .ref mo)]) hx hb dX3_digest_29 rfl hl (by decide) rfl (fun ls hl1 => ?_)
  clear hl
  have hl := hl1
  clear hl1
  refine lv_iinc (v := (nI 10)) (lv' := [(3, .int (nI 10)), (1, .long (dg (dg (dg (dg (dg (dg (dg (dg (dg (dg 1427 ((nI rc))) ((nI L1.length))) ((nI L2.length))) ((nI L3.length))) ((nI L4.length))) ((nI P.length))) ((nI M.length))) ((nI bo))) (nA)) (nH))), (0, .ref mo)]) hx hb dX3_digest_30 hl (k := 1) rfl (by decide +kernel) (by decide) rfl (fun ls hl => ?_)
  refine lv_goto (tgt := 11) hx hb dX3_digest_33 (by decide) ?_
  refine lv_iload_n hx hb dX3_digest_11 rfl (lv_at hl 0 rfl) ?_
  refine lv_bipush (v := (nI 12)) hx hb dX3_digest_12 (by decide +kernel) ?_
  refine g_icmp_ge (tgt := 36) hx hb dX3_digest_14 (by decide) (by decide) (by decide) (fun c_42 => False.elim (by omega)) (fun c_42 => ?_)
  refine lv_lload_n hx hb dX3_digest_17 rfl (lv_at hl 1 rfl) ?_
  refine lv_ldc2 (v := 31) hx hb hown (hts (.constantLong RX3 124 (31)) (by decide +kernel)) dX3_digest_18 ?_
  refine lv_lmul hx hb dX3_digest_21 ?_
  refine lv_aload_n hx hb dX3_digest_22 rfl (lv_at hl 2 rfl) ?_
  refine lv_iload_n hx hb dX3_digest_23 rfl (lv_at hl 0 rfl) ?_
  have hPc := hP.sub (ws' := [(mo, .inr (3, [.int (nI 0), .ref rr, .ref si, .ref nb, .ref ak, .ref ha])), (rr, .inl (cR, 7, .inr (.inr (.inr (.inr (RW [b0, b1, b2, b3, b4, b5, b6])))))), (si, .inl (cI, 7, .inl (D 0))), (nb, .inl (cI, 6, .inl (D 1))), (ak, .inl (cI, 30, .inl (D 2))), (ha, .inl (cI, 30, .inl (D 3))), (b0, .inl (cI, 31, .inl (D 4))), (b1, .inl (cI, 31, .inl (D 5))), (b2, .inl (cI, 31, .inl (D 6))), (b3, .inl (cI, 31, .inl (D 7))), (b4, .inl (cI, 31, .inl (D 8))), (b5, .inl (cI, 31, .inl (D 9))), (b6, .inl (cI, 31, .inl (D 10)))]) [0, 1, 2, 3, 4, 5, 6, 7, 8, 9, 10, 11, 12] rfl
  have hDc := hD.sub (ws' := [(mo, .inr (3, [.int (nI 0), .ref rr, .ref si, .ref nb, .ref ak, .ref ha])), (rr, .inl (cR, 7, .inr (.inr (.inr (.inr (RW [b0, b1, b2, b3, b4, b5, b6])))))), (si, .inl (cI, 7, .inl (D 0))), (nb, .inl (cI, 6, .inl (D 1))), (ak, .inl (cI, 30, .inl (D 2))), (ha, .inl (cI, 30, .inl (D 3))), (b0, .inl (cI, 31, .inl (D 4))), (b1, .inl (cI, 31, .inl (D 5))), (b2, .inl (cI, 31, .inl (D 6))), (b3, .inl (cI, 31, .inl (D 7))), (b4, .inl (cI, 31, .inl (D 8))), (b5, .inl (cI, 31, .inl (D 9))), (b6, .inl (cI, 31, .inl (D 10)))]) [0, 1, 2, 3, 4, 5, 6, 7, 8, 9, 10, 11, 12] (by decide) rfl
  have hKc := hK.sub (tys' := [(cI, .int), (cR, .array .int)]) [0, 1] rfl
  have hFc := va_free (wc := [(mo, .inr (3, [.int (nI 0), .ref rr, .ref si, .ref nb, .ref ak, .ref ha])), (rr, .inl (cR, 7, .inr (.inr (.inr (.inr (RW [b0, b1, b2, b3, b4, b5, b6])))))), (si, .inl (cI, 7, .inl (D 0))), (nb, .inl (cI, 6, .inl (D 1))), (ak, .inl (cI, 30, .inl (D 2))), (ha, .inl (cI, 30, .inl (D 3))), (b0, .inl (cI, 31, .inl (D 4))), (b1, .inl (cI, 31, .inl (D 5))), (b2, .inl (cI, 31, .inl (D 6))), (b3, .inl (cI, 31, .inl (D 7))), (b4, .inl (cI, 31, .inl (D 8))), (b5, .inl (cI, 31, .inl (D 9))), (b6, .inl (cI, 31, .inl (D 10)))]) hD hS hA [0, 1, 2, 3, 4, 5, 6, 7, 8, 9, 10, 11, 12] rfl
  refine va_calli (va_runV (As := [.int (nI 10)]) (rest := [.long ((dg (dg (dg (dg (dg (dg (dg (dg (dg (dg 1427 ((nI rc))) ((nI L1.length))) ((nI L2.length))) ((nI L3.length))) ((nI L4.length))) ((nI P.length))) ((nI M.length))) ((nI bo))) (nA)) (nH)) * 31)]) ⟨hx, hb, hml, hown, hts⟩ (c_X3_counted_10 l G cI cR mo rr si nb ak ha b0 b1 b2 b3 b4 b5 b6 (nI 0) D L1 L2 L3 L4 P M rc bo nA nH nP nM KA TA hM  H_39.size) (cwV 1 hts gX3_digest_X3_counted rfl rfl rfl (by decide +kernel) ⟨Nat.le_of_ble_eq_true rfl, Nat.le_of_ble_eq_true rfl⟩) (g_preV (As := [.int (nI 10)]) hPc hKc hDc 0 rfl rfl) rfl rfl hl.1 rfl (lv_room (Nat.le_of_ble_eq_true rfl)) dX3_digest_24 ⟨(Nat.le_of_ble_eq_true rfl), (Nat.le_of_ble_eq_true rfl)⟩) hS (fun q _ h => hFc q h) hFc (fun r_44 u_45 t H_43 locs ht hvm hw hB hz1 hk1 hS1 => ?_)
  have hw := hw.symm
  subst hw
  obtain ⟨hP1, hD1⟩ := g_join (wc := [(mo, .inr (3, [.int (nI 0), .ref rr, .ref si, .ref nb, .ref ak, .ref ha])), (rr, .inl (cR, 7, .inr (.inr (.inr (.inr (RW [b0, b1, b2, b3, b4, b5, b6])))))), (si, .inl (cI, 7, .inl (D 0))), (nb, .inl (cI, 6, .inl (D 1))), (ak, .inl (cI, 30, .inl (D 2))), (ha, .inl (cI, 30, .inl (D 3))), (b0, .inl (cI, 31, .inl (D 4))), (b1, .inl (cI, 31, .inl (D 5))), (b2, .inl (cI, 31, .inl (D 6))), (b3, .inl (cI, 31, .inl (D 7))), (b4, .inl (cI, 31, .inl (D 8))), (b5, .inl (cI, 31, .inl (D 9))), (b6, .inl (cI, 31, .inl (D 10)))]) (wr := []) (w1 := [(mo, .inr (3, [.int (nI 0), .ref rr, .ref si, .ref nb, .ref ak, .ref ha])), (rr, .inl (cR, 7, .inr (.inr (.inr (.inr (RW [b0, b1, b2, b3, b4, b5, b6])))))), (si, .inl (cI, 7, .inl (D 0))), (nb, .inl (cI, 6, .inl (D 1))), (ak, .inl (cI, 30, .inl (D 2))), (ha, .inl (cI, 30, .inl (D 3))), (b0, .inl (cI, 31, .inl (D 4))), (b1, .inl (cI, 31, .inl (D 5))), (b2, .inl (cI, 31, .inl (D 6))), (b3, .inl (cI, 31, .inl (D 7))), (b4, .inl (cI, 31, .inl (D 8))), (b5, .inl (cI, 31, .inl (D 9))), (b6, .inl (cI, 31, .inl (D 10)))]) hP hD [0, 1, 2, 3, 4, 5, 6, 7, 8, 9, 10, 11, 12] [] rfl rfl (by decide) (by decide) ht hk1 hFc hB
  clear hB hk1 hz1 hvm ht hPc hDc hKc hFc
  clear hP hD hS
  have hP : va_P G vwCl [(mo, .inr (3, [.int (nI 0), .ref rr, .ref si, .ref nb, .ref ak, .ref ha])), (rr, .inl (cR, 7, .inr (.inr (.inr (.inr (RW [b0, b1, b2, b3, b4, b5, b6])))))), (si, .inl (cI, 7, .inl (D 0))), (nb, .inl (cI, 6, .inl (D 1))), (ak, .inl (cI, 30, .inl (D 2))), (ha, .inl (cI, 30, .inl (D 3))), (b0, .inl (cI, 31, .inl (D 4))), (b1, .inl (cI, 31, .inl (D 5))), (b2, .inl (cI, 31, .inl (D 6))), (b3, .inl (cI, 31, .inl (D 7))), (b4, .inl (cI, 31, .inl (D 8))), (b5, .inl (cI, 31, .inl (D 9))), (b6, .inl (cI, 31, .inl (D 10)))] H_43 := hP1
  have hD : va_D A [(mo, .inr (3, [.int (nI 0), .ref rr, .ref si, .ref nb, .ref ak, .ref ha])), (rr, .inl (cR, 7, .inr (.inr (.inr (.inr (RW [b0, b1, b2, b3, b4, b5, b6])))))), (si, .inl (cI, 7, .inl (D 0))), (nb, .inl (cI, 6, .inl (D 1))), (ak, .inl (cI, 30, .inl (D 2))), (ha, .inl (cI, 30, .inl (D 3))), (b0, .inl (cI, 31, .inl (D 4))), (b1, .inl (cI, 31, .inl (D 5))), (b2, .inl (cI, 31, .inl (D 6))), (b3, .inl (cI, 31, .inl (D 7))), (b4, .inl (cI, 31, .inl (D 8))), (b5, .inl (cI, 31, .inl (D 9))), (b6, .inl (cI, 31, .inl (D 10)))] := hD1
  have hS := hS1
  clear hP1 hD1 hS1
  refine lv_i2l hx hb dX3_digest_27 rfl ?_
  refine lv_ladd hx hb dX3_digest_28 ?_
  refine lv_lstore_n (lv' := [(1, .long (dg (dg (dg (dg (dg (dg (dg (dg (dg (dg (dg 1427 ((nI rc))) ((nI L1.length))) ((nI L2.length))) ((nI L3.length))) ((nI L4.length))) ((nI P.length))) ((nI M.length))) ((nI bo))) (nA)) (nH)) (nP))), (3, .int (nI 10)), (0, .ref mo)]) hx hb dX3_digest_29 rfl hl (by decide) rfl (fun ls hl1 => ?_)
  clear hl
  have hl := hl1
  clear hl1
  refine lv_iinc (v := (nI 11)) (lv' := [(3, .int (nI 11)), (1, .long (dg (dg (dg (dg (dg (dg (dg (dg (dg (dg (dg 1427 ((nI rc))) ((nI L1.length))) ((nI L2.length))) ((nI L3.length))) ((nI L4.length))) ((nI P.length))) ((nI M.length))) ((nI bo))) (nA)) (nH)) (nP))), (0, .ref mo)]) hx hb dX3_digest_30 hl (k := 1) rfl (by decide +kernel) (by decide) rfl (fun ls hl => ?_)
  refine lv_goto (tgt := 11) hx hb dX3_digest_33 (by decide) ?_
  refine lv_iload_n hx hb dX3_digest_11 rfl (lv_at hl 0 rfl) ?_
  refine lv_bipush (v := (nI 12)) hx hb dX3_digest_12 (by decide +kernel) ?_
  refine g_icmp_ge (tgt := 36) hx hb dX3_digest_14 (by decide) (by decide) (by decide) (fun c_46 => False.elim (by omega)) (fun c_46 => ?_)
  refine lv_lload_n hx hb dX3_digest_17 rfl (lv_at hl 1 rfl) ?_
  refine lv_ldc2 (v := 31) hx hb hown (hts (.constantLong RX3 124 (31)) (by decide +kernel)) dX3_digest_18 ?_
  refine lv_lmul hx hb dX3_digest_21 ?_
  refine lv_aload_n hx hb dX3_digest_22 rfl (lv_at hl 2 rfl) ?_
  refine lv_iload_n hx hb dX3_digest_23 rfl (lv_at hl 0 rfl) ?_
  have hPc := hP.sub (ws' := [(mo, .inr (3, [.int (nI 0), .ref rr, .ref si, .ref nb, .ref ak, .ref ha])), (rr, .inl (cR, 7, .inr (.inr (.inr (.inr (RW [b0, b1, b2, b3, b4, b5, b6])))))), (si, .inl (cI, 7, .inl (D 0))), (nb, .inl (cI, 6, .inl (D 1))), (ak, .inl (cI, 30, .inl (D 2))), (ha, .inl (cI, 30, .inl (D 3))), (b0, .inl (cI, 31, .inl (D 4))), (b1, .inl (cI, 31, .inl (D 5))), (b2, .inl (cI, 31, .inl (D 6))), (b3, .inl (cI, 31, .inl (D 7))), (b4, .inl (cI, 31, .inl (D 8))), (b5, .inl (cI, 31, .inl (D 9))), (b6, .inl (cI, 31, .inl (D 10)))]) [0, 1, 2, 3, 4, 5, 6, 7, 8, 9, 10, 11, 12] rfl
  have hDc := hD.sub (ws' := [(mo, .inr (3, [.int (nI 0), .ref rr, .ref si, .ref nb, .ref ak, .ref ha])), (rr, .inl (cR, 7, .inr (.inr (.inr (.inr (RW [b0, b1, b2, b3, b4, b5, b6])))))), (si, .inl (cI, 7, .inl (D 0))), (nb, .inl (cI, 6, .inl (D 1))), (ak, .inl (cI, 30, .inl (D 2))), (ha, .inl (cI, 30, .inl (D 3))), (b0, .inl (cI, 31, .inl (D 4))), (b1, .inl (cI, 31, .inl (D 5))), (b2, .inl (cI, 31, .inl (D 6))), (b3, .inl (cI, 31, .inl (D 7))), (b4, .inl (cI, 31, .inl (D 8))), (b5, .inl (cI, 31, .inl (D 9))), (b6, .inl (cI, 31, .inl (D 10)))]) [0, 1, 2, 3, 4, 5, 6, 7, 8, 9, 10, 11, 12] (by decide) rfl
  have hKc := hK.sub (tys' := [(cI, .int), (cR, .array .int)]) [0, 1] rfl
  have hFc := va_free (wc := [(mo, .inr (3, [.int (nI 0), .ref rr, .ref si, .ref nb, .ref ak, .ref ha])), (rr, .inl (cR, 7, .inr (.inr (.inr (.inr (RW [b0, b1, b2, b3, b4, b5, b6])))))), (si, .inl (cI, 7, .inl (D 0))), (nb, .inl (cI, 6, .inl (D 1))), (ak, .inl (cI, 30, .inl (D 2))), (ha, .inl (cI, 30, .inl (D 3))), (b0, .inl (cI, 31, .inl (D 4))), (b1, .inl (cI, 31, .inl (D 5))), (b2, .inl (cI, 31, .inl (D 6))), (b3, .inl (cI, 31, .inl (D 7))), (b4, .inl (cI, 31, .inl (D 8))), (b5, .inl (cI, 31, .inl (D 9))), (b6, .inl (cI, 31, .inl (D 10)))]) hD hS hA [0, 1, 2, 3, 4, 5, 6, 7, 8, 9, 10, 11, 12] rfl
  refine va_calli (va_runV (As := [.int (nI 11)]) (rest := [.long ((dg (dg (dg (dg (dg (dg (dg (dg (dg (dg (dg 1427 ((nI rc))) ((nI L1.length))) ((nI L2.length))) ((nI L3.length))) ((nI L4.length))) ((nI P.length))) ((nI M.length))) ((nI bo))) (nA)) (nH)) (nP)) * 31)]) ⟨hx, hb, hml, hown, hts⟩ (c_X3_counted_11 l G cI cR mo rr si nb ak ha b0 b1 b2 b3 b4 b5 b6 (nI 0) D L1 L2 L3 L4 P M rc bo nA nH nP nM KA TA hM  H_43.size) (cwV 1 hts gX3_digest_X3_counted rfl rfl rfl (by decide +kernel) ⟨Nat.le_of_ble_eq_true rfl, Nat.le_of_ble_eq_true rfl⟩) (g_preV (As := [.int (nI 11)]) hPc hKc hDc 0 rfl rfl) rfl rfl hl.1 rfl (lv_room (Nat.le_of_ble_eq_true rfl)) dX3_digest_24 ⟨(Nat.le_of_ble_eq_true rfl), (Nat.le_of_ble_eq_true rfl)⟩) hS (fun q _ h => hFc q h) hFc (fun r_48 u_49 t H_47 locs ht hvm hw hB hz1 hk1 hS1 => ?_)
  have hw := hw.symm
  subst hw
  obtain ⟨hP1, hD1⟩ := g_join (wc := [(mo, .inr (3, [.int (nI 0), .ref rr, .ref si, .ref nb, .ref ak, .ref ha])), (rr, .inl (cR, 7, .inr (.inr (.inr (.inr (RW [b0, b1, b2, b3, b4, b5, b6])))))), (si, .inl (cI, 7, .inl (D 0))), (nb, .inl (cI, 6, .inl (D 1))), (ak, .inl (cI, 30, .inl (D 2))), (ha, .inl (cI, 30, .inl (D 3))), (b0, .inl (cI, 31, .inl (D 4))), (b1, .inl (cI, 31, .inl (D 5))), (b2, .inl (cI, 31, .inl (D 6))), (b3, .inl (cI, 31, .inl (D 7))), (b4, .inl (cI, 31, .inl (D 8))), (b5, .inl (cI, 31, .inl (D 9))), (b6, .inl (cI, 31, .inl (D 10)))]) (wr := []) (w1 := [(mo, .inr (3, [.int (nI 0), .ref rr, .ref si, .ref nb, .ref ak, .ref ha])), (rr, .inl (cR, 7, .inr (.inr (.inr (.inr (RW [b0, b1, b2, b3, b4, b5, b6])))))), (si, .inl (cI, 7, .inl (D 0))), (nb, .inl (cI, 6, .inl (D 1))), (ak, .inl (cI, 30, .inl (D 2))), (ha, .inl (cI, 30, .inl (D 3))), (b0, .inl (cI, 31, .inl (D 4))), (b1, .inl (cI, 31, .inl (D 5))), (b2, .inl (cI, 31, .inl (D 6))), (b3, .inl (cI, 31, .inl (D 7))), (b4, .inl (cI, 31, .inl (D 8))), (b5, .inl (cI, 31, .inl (D 9))), (b6, .inl (cI, 31, .inl (D 10)))]) hP hD [0, 1, 2, 3, 4, 5, 6, 7, 8, 9, 10, 11, 12] [] rfl rfl (by decide) (by decide) ht hk1 hFc hB
  clear hB hk1 hz1 hvm ht hPc hDc hKc hFc
  clear hP hD hS
  have hP : va_P G vwCl [(mo, .inr (3, [.int (nI 0), .ref rr, .ref si, .ref nb, .ref ak, .ref ha])), (rr, .inl (cR, 7, .inr (.inr (.inr (.inr (RW [b0, b1, b2, b3, b4, b5, b6])))))), (si, .inl (cI, 7, .inl (D 0))), (nb, .inl (cI, 6, .inl (D 1))), (ak, .inl (cI, 30, .inl (D 2))), (ha, .inl (cI, 30, .inl (D 3))), (b0, .inl (cI, 31, .inl (D 4))), (b1, .inl (cI, 31, .inl (D 5))), (b2, .inl (cI, 31, .inl (D 6))), (b3, .inl (cI, 31, .inl (D 7))), (b4, .inl (cI, 31, .inl (D 8))), (b5, .inl (cI, 31, .inl (D 9))), (b6, .inl (cI, 31, .inl (D 10)))] H_47 := hP1
  have hD : va_D A [(mo, .inr (3, [.int (nI 0), .ref rr, .ref si, .ref nb, .ref ak, .ref ha])), (rr, .inl (cR, 7, .inr (.inr (.inr (.inr (RW [b0, b1, b2, b3, b4, b5, b6])))))), (si, .inl (cI, 7, .inl (D 0))), (nb, .inl (cI, 6, .inl (D 1))), (ak, .inl (cI, 30, .inl (D 2))), (ha, .inl (cI, 30, .inl (D 3))), (b0, .inl (cI, 31, .inl (D 4))), (b1, .inl (cI, 31, .inl (D 5))), (b2, .inl (cI, 31, .inl (D 6))), (b3, .inl (cI, 31, .inl (D 7))), (b4, .inl (cI, 31, .inl (D 8))), (b5, .inl (cI, 31, .inl (D 9))), (b6, .inl (cI, 31, .inl (D 10)))] := hD1
  have hS := hS1
  clear hP1 hD1 hS1
  refine lv_i2l hx hb dX3_digest_27 rfl ?_
  refine lv_ladd hx hb dX3_digest_28 ?_
  refine lv_lstore_n (lv' := [(1, .long (dg (dg (dg (dg (dg (dg (dg (dg (dg (dg (dg (dg 1427 ((nI rc))) ((nI L1.length))) ((nI L2.length))) ((nI L3.length))) ((nI L4.length))) ((nI P.length))) ((nI M.length))) ((nI bo))) (nA)) (nH)) (nP)) (nM))), (3, .int (nI 11)), (0, .ref mo)]) hx hb dX3_digest_29 rfl hl (by decide) rfl (fun ls hl1 => ?_)
  clear hl
  have hl := hl1
  clear hl1
  refine lv_iinc (v := (nI 12)) (lv' := [(3, .int (nI 12)), (1, .long (dg (dg (dg (dg (dg (dg (dg (dg (dg (dg (dg (dg 1427 ((nI rc))) ((nI L1.length))) ((nI L2.length))) ((nI L3.length))) ((nI L4.length))) ((nI P.length))) ((nI M.length))) ((nI bo))) (nA)) (nH)) (nP)) (nM))), (0, .ref mo)]) hx hb dX3_digest_30 hl (k := 1) rfl (by decide +kernel) (by decide) rfl (fun ls hl => ?_)
  refine lv_goto (tgt := 11) hx hb dX3_digest_33 (by decide) ?_
  refine lv_iload_n hx hb dX3_digest_11 rfl (lv_at hl 0 rfl) ?_
  refine lv_bipush (v := (nI 12)) hx hb dX3_digest_12 (by decide +kernel) ?_
  refine g_icmp_ge (tgt := 36) hx hb dX3_digest_14 (by decide) (by decide) (by decide) (fun c_50 => ?_) (fun c_50 => False.elim (by omega))
  refine lv_iconst (v := (nI 1)) hx hb dX3_digest_36 (by decide +kernel) ?_
  refine lv_istore_n (lv' := [(3, .int (nI 1)), (1, .long (dg (dg (dg (dg (dg (dg (dg (dg (dg (dg (dg (dg 1427 ((nI rc))) ((nI L1.length))) ((nI L2.length))) ((nI L3.length))) ((nI L4.length))) ((nI P.length))) ((nI M.length))) ((nI bo))) (nA)) (nH)) (nP)) (nM))), (0, .ref mo)]) hx hb dX3_digest_37 rfl hl (by decide) rfl (fun ls hl1 => ?_)
  clear hl
  have hl := hl1
  clear hl1
  refine lv_iload_n hx hb dX3_digest_38 rfl (lv_at hl 0 rfl) ?_
  refine lv_bipush (v := (nI 7)) hx hb dX3_digest_39 (by decide +kernel) ?_
  refine g_icmp_ge (tgt := 87) hx hb dX3_digest_41 (by decide) (by decide) (by decide) (fun c_51 => False.elim (by omega)) (fun c_51 => ?_)
  refine lv_iconst (v := (nI 0)) hx hb dX3_digest_44 (by decide +kernel) ?_
  refine lv_istore (lv' := [(4, .int (nI 0)), (3, .int (nI 1)), (1, .long (dg (dg (dg (dg (dg (dg (dg (dg (dg (dg (dg (dg 1427 ((nI rc))) ((nI L1.length))) ((nI L2.length))) ((nI L3.length))) ((nI L4.length))) ((nI P.length))) ((nI M.length))) ((nI bo))) (nA)) (nH)) (nP)) (nM))), (0, .ref mo)]) hx hb dX3_digest_45 hl (by decide) rfl (fun ls hl1 => ?_)
  clear hl
  have hl := hl1
  clear hl1
  obtain ⟨dd1, e_dd1⟩ : ∃ z : Int64, z = (dg (dg (dg (dg (dg (dg (dg (dg (dg (dg (dg (dg 1427 ((nI rc))) ((nI L1.length))) ((nI L2.length))) ((nI L3.length))) ((nI L4.length))) ((nI P.length))) ((nI M.length))) ((nI bo))) (nA)) (nH)) (nP)) (nM)) := ⟨_, rfl⟩
  have hl1 : lv_has ls 5 [(4, .int (nI 0)), (3, .int (nI 1)), (1, .long dd1), (0, .ref mo)] := by rw [e_dd1]; exact hl
  clear hl
  have hl := hl1
  clear hl1
  have hl1 : lv_has ls 5 [(4, .int (nI 0)), (3, .int (nI 1)), (1, .long (dgl dd1 (L1.take 0))), (0, .ref mo)] := by rw [lg_0]; exact hl
  clear hl
  have hl := hl1
  clear hl1
  have hl0 := lv_sub (l' := [(4, .int (nI 0)), (1, .long (dgl dd1 (L1.take 0))), (3, .int (nI 1)), (0, .ref mo)]) hl [0, 2, 1, 3] rfl
  clear hl
  have pk0 : 0 ≤ L1.length ∧ lv_has ls 5 [(4, .int (nI 0)), (1, .long (dgl dd1 (L1.take 0))), (3, .int (nI 1)), (0, .ref mo)] := ⟨(Nat.zero_le _), hl0⟩
  clear  hl0 
  obtain ⟨k1, er1⟩ : ∃ k1 : Nat, k1 = 0 := ⟨0, rfl⟩
  have pk1 : L1.length - k1 < (L1.length - 0) + 1 ∧ k1 ≤ L1.length ∧ lv_has ls 5 [(4, .int (nI k1)), (1, .long (dgl dd1 (L1.take k1))), (3, .int (nI 1)), (0, .ref mo)] := ⟨by omega, by rw [er1]; exact pk0⟩
  clear pk0 er1
  generalize (L1.length - 0) + 1 = nr1 at pk1
  induction nr1 generalizing k1 ls with
  | zero => exact absurd pk1.1 (Nat.not_lt_zero _)
  | succ nr1 ihr1 =>
    obtain ⟨hnr1, hk91, hl⟩ := pk1
    refine lv_iload hx hb dX3_digest_47 (lv_at hl 0 rfl) ?_
    refine lv_aload_n hx hb dX3_digest_49 rfl (lv_at hl 3 rfl) ?_
    refine va_get (D := G) (ci := 3) (v := .ref si) (C := RX3) (T := TX3) (N := 6) hx hb hts iX3_digest_X3 hown hK hP 0 rfl rfl 2 (by decide) (hts (.fieldLink RX3 14 "GhostPantryModel" "sizes" "[I") (by decide +kernel)) (fun _ h9 => h9) rfl dX3_digest_50 ?_
    refine lv_iload_n hx hb dX3_digest_53 rfl (lv_at hl 2 rfl) ?_
    refine g_iald hx hb hK hP 2 0 rfl rfl (i := 1) (by decide) (by decide) dX3_digest_54 (v := (nI L1.length)) (hM.2.2.2.2.2.2.1) ?_
    refine g_icmp_ge (tgt := 81) hx hb dX3_digest_55 (by decide) (by omega) (by omega) (fun c_52 => ?_) (fun c_52 => ?_)
    · have ek1 : L1.take k1 = L1 := List.take_of_length_le (by omega)
      have hl1 : lv_has ls 5 [(4, .int (nI k1)), (1, .long (dgl dd1 L1)), (3, .int (nI 1)), (0, .ref mo)] := by rw [ek1] at hl; exact hl
      clear hl
      have hl := hl1
      clear hl1
      refine lv_iinc (v := (nI 2)) (lv' := [(3, .int (nI 2)), (4, .int (nI k1)), (1, .long (dgl dd1 L1)), (0, .ref mo)]) hx hb dX3_digest_81 hl (k := 2) rfl (by decide +kernel) (by decide) rfl (fun ls hl => ?_)
      refine lv_goto (tgt := 38) hx hb dX3_digest_84 (by decide) ?_
      refine lv_iload_n hx hb dX3_digest_38 rfl (lv_at hl 0 rfl) ?_
      refine lv_bipush (v := (nI 7)) hx hb dX3_digest_39 (by decide +kernel) ?_
      refine g_icmp_ge (tgt := 87) hx hb dX3_digest_41 (by decide) (by decide) (by decide) (fun c_53 => False.elim (by omega)) (fun c_53 => ?_)
      refine lv_iconst (v := (nI 0)) hx hb dX3_digest_44 (by decide +kernel) ?_
      refine lv_istore (lv' := [(4, .int (nI 0)), (3, .int (nI 2)), (1, .long (dgl dd1 L1)), (0, .ref mo)]) hx hb dX3_digest_45 hl (by decide) rfl (fun ls hl1 => ?_)
      clear hl
      have hl := hl1
      clear hl1
      obtain ⟨dd2, e_dd2⟩ : ∃ z : Int64, z = (dgl dd1 L1) := ⟨_, rfl⟩
      have hl1 : lv_has ls 5 [(4, .int (nI 0)), (3, .int (nI 2)), (1, .long dd2), (0, .ref mo)] := by rw [e_dd2]; exact hl
      clear hl
      have hl := hl1
      clear hl1
      have hl1 : lv_has ls 5 [(4, .int (nI 0)), (3, .int (nI 2)), (1, .long (dgl dd2 (L2.take 0))), (0, .ref mo)] := by rw [lg_0]; exact hl
      clear hl
      have hl := hl1
      clear hl1
      have hl0 := lv_sub (l' := [(4, .int (nI 0)), (1, .long (dgl dd2 (L2.take 0))), (3, .int (nI 2)), (0, .ref mo)]) hl [0, 2, 1, 3] rfl
      clear hl
      have pk0 : 0 ≤ L2.length ∧ lv_has ls 5 [(4, .int (nI 0)), (1, .long (dgl dd2 (L2.take 0))), (3, .int (nI 2)), (0, .ref mo)] := ⟨(Nat.zero_le _), hl0⟩
      clear  hl0 
      obtain ⟨k2, er2⟩ : ∃ k2 : Nat, k2 = 0 := ⟨0, rfl⟩
      have pk1 : L2.length - k2 < (L2.length - 0) + 1 ∧ k2 ≤ L2.length ∧ lv_has ls 5 [(4, .int (nI k2)), (1, .long (dgl dd2 (L2.take k2))), (3, .int (nI 2)), (0, .ref mo)] := ⟨by omega, by rw [er2]; exact pk0⟩
      clear pk0 er2
      generalize (L2.length - 0) + 1 = nr2 at pk1
      induction nr2 generalizing k2 ls with
      | zero => exact absurd pk1.1 (Nat.not_lt_zero _)
      | succ nr2 ihr2 =>
        obtain ⟨hnr2, hk92, hl⟩ := pk1
        refine lv_iload hx hb dX3_digest_47 (lv_at hl 0 rfl) ?_
        refine lv_aload_n hx hb dX3_digest_49 rfl (lv_at hl 3 rfl) ?_
        refine va_get (D := G) (ci := 3) (v := .ref si) (C := RX3) (T := TX3) (N := 6) hx hb hts iX3_digest_X3 hown hK hP 0 rfl rfl 2 (by decide) (hts (.fieldLink RX3 14 "GhostPantryModel" "sizes" "[I") (by decide +kernel)) (fun _ h9 => h9) rfl dX3_digest_50 ?_
        refine lv_iload_n hx hb dX3_digest_53 rfl (lv_at hl 2 rfl) ?_
        refine g_iald hx hb hK hP 2 0 rfl rfl (i := 2) (by decide) (by decide) dX3_digest_54 (v := (nI L2.length)) (hM.2.2.2.2.2.2.2.1) ?_
        refine g_icmp_ge (tgt := 81) hx hb dX3_digest_55 (by decide) (by omega) (by omega) (fun c_54 => ?_) (fun c_54 => ?_)
        · have ek2 : L2.take k2 = L2 := List.take_of_length_le (by omega)
          have hl1 : lv_has ls 5 [(4, .int (nI k2)), (1, .long (dgl dd2 L2)), (3, .int (nI 2)), (0, .ref mo)] := by rw [ek2] at hl; exact hl
          clear hl
          have hl := hl1
          clear hl1
          refine lv_iinc (v := (nI 3)) (lv' := [(3, .int (nI 3)), (4, .int (nI k2)), (1, .long (dgl dd2 L2)), (0, .ref mo)]) hx hb dX3_digest_81 hl (k := 2) rfl (by decide +kernel) (by decide) rfl (fun ls hl => ?_)
          refine lv_goto (tgt := 38) hx hb dX3_digest_84 (by decide) ?_
          refine lv_iload_n hx hb dX3_digest_38 rfl (lv_at hl 0 rfl) ?_
          refine lv_bipush (v := (nI 7)) hx hb dX3_digest_39 (by decide +kernel) ?_
          refine g_icmp_ge (tgt := 87) hx hb dX3_digest_41 (by decide) (by decide) (by decide) (fun c_55 => False.elim (by omega)) (fun c_55 => ?_)
          refine lv_iconst (v := (nI 0)) hx hb dX3_digest_44 (by decide +kernel) ?_
          refine lv_istore (lv' := [(4, .int (nI 0)), (3, .int (nI 3)), (1, .long (dgl dd2 L2)), (0, .ref mo)]) hx hb dX3_digest_45 hl (by decide) rfl (fun ls hl1 => ?_)
          clear hl
          have hl := hl1
          clear hl1
          obtain ⟨dd3, e_dd3⟩ : ∃ z : Int64, z = (dgl dd2 L2) := ⟨_, rfl⟩
          have hl1 : lv_has ls 5 [(4, .int (nI 0)), (3, .int (nI 3)), (1, .long dd3), (0, .ref mo)] := by rw [e_dd3]; exact hl
          clear hl
          have hl := hl1
          clear hl1
          have hl1 : lv_has ls 5 [(4, .int (nI 0)), (3, .int (nI 3)), (1, .long (dgl dd3 (L3.take 0))), (0, .ref mo)] := by rw [lg_0]; exact hl
          clear hl
          have hl := hl1
          clear hl1
          have hl0 := lv_sub (l' := [(4, .int (nI 0)), (1, .long (dgl dd3 (L3.take 0))), (3, .int (nI 3)), (0, .ref mo)]) hl [0, 2, 1, 3] rfl
          clear hl
          have pk0 : 0 ≤ L3.length ∧ lv_has ls 5 [(4, .int (nI 0)), (1, .long (dgl dd3 (L3.take 0))), (3, .int (nI 3)), (0, .ref mo)] := ⟨(Nat.zero_le _), hl0⟩
          clear  hl0 
          obtain ⟨k3, er3⟩ : ∃ k3 : Nat, k3 = 0 := ⟨0, rfl⟩
          have pk1 : L3.length - k3 < (L3.length - 0) + 1 ∧ k3 ≤ L3.length ∧ lv_has ls 5 [(4, .int (nI k3)), (1, .long (dgl dd3 (L3.take k3))), (3, .int (nI 3)), (0, .ref mo)] := ⟨by omega, by rw [er3]; exact pk0⟩
          clear pk0 er3
          generalize (L3.length - 0) + 1 = nr3 at pk1
          induction nr3 generalizing k3 ls with
          | zero => exact absurd pk1.1 (Nat.not_lt_zero _)
          | succ nr3 ihr3 =>
            obtain ⟨hnr3, hk93, hl⟩ := pk1
            refine lv_iload hx hb dX3_digest_47 (lv_at hl 0 rfl) ?_
            refine lv_aload_n hx hb dX3_digest_49 rfl (lv_at hl 3 rfl) ?_
            refine va_get (D := G) (ci := 3) (v := .ref si) (C := RX3) (T := TX3) (N := 6) hx hb hts iX3_digest_X3 hown hK hP 0 rfl rfl 2 (by decide) (hts (.fieldLink RX3 14 "GhostPantryModel" "sizes" "[I") (by decide +kernel)) (fun _ h9 => h9) rfl dX3_digest_50 ?_
            refine lv_iload_n hx hb dX3_digest_53 rfl (lv_at hl 2 rfl) ?_
            refine g_iald hx hb hK hP 2 0 rfl rfl (i := 3) (by decide) (by decide) dX3_digest_54 (v := (nI L3.length)) (hM.2.2.2.2.2.2.2.2.1) ?_
            refine g_icmp_ge (tgt := 81) hx hb dX3_digest_55 (by decide) (by omega) (by omega) (fun c_56 => ?_) (fun c_56 => ?_)
            · have ek3 : L3.take k3 = L3 := List.take_of_length_le (by omega)
              have hl1 : lv_has ls 5 [(4, .int (nI k3)), (1, .long (dgl dd3 L3)), (3, .int (nI 3)), (0, .ref mo)] := by rw [ek3] at hl; exact hl
              clear hl
              have hl := hl1
              clear hl1
              refine lv_iinc (v := (nI 4)) (lv' := [(3, .int (nI 4)), (4, .int (nI k3)), (1, .long (dgl dd3 L3)), (0, .ref mo)]) hx hb dX3_digest_81 hl (k := 2) rfl (by decide +kernel) (by decide) rfl (fun ls hl => ?_)
              refine lv_goto (tgt := 38) hx hb dX3_digest_84 (by decide) ?_
              refine lv_iload_n hx hb dX3_digest_38 rfl (lv_at hl 0 rfl) ?_
              refine lv_bipush (v := (nI 7)) hx hb dX3_digest_39 (by decide +kernel) ?_
              refine g_icmp_ge (tgt := 87) hx hb dX3_digest_41 (by decide) (by decide) (by decide) (fun c_57 => False.elim (by omega)) (fun c_57 => ?_)
              refine lv_iconst (v := (nI 0)) hx hb dX3_digest_44 (by decide +kernel) ?_
              refine lv_istore (lv' := [(4, .int (nI 0)), (3, .int (nI 4)), (1, .long (dgl dd3 L3)), (0, .ref mo)]) hx hb dX3_digest_45 hl (by decide) rfl (fun ls hl1 => ?_)
              clear hl
              have hl := hl1
              clear hl1
              obtain ⟨dd4, e_dd4⟩ : ∃ z : Int64, z = (dgl dd3 L3) := ⟨_, rfl⟩
              have hl1 : lv_has ls 5 [(4, .int (nI 0)), (3, .int (nI 4)), (1, .long dd4), (0, .ref mo)] := by rw [e_dd4]; exact hl
              clear hl
              have hl := hl1
              clear hl1
              have hl1 : lv_has ls 5 [(4, .int (nI 0)), (3, .int (nI 4)), (1, .long (dgl dd4 (L4.take 0))), (0, .ref mo)] := by rw [lg_0]; exact hl
              clear hl
              have hl := hl1
              clear hl1
              have hl0 := lv_sub (l' := [(4, .int (nI 0)), (1, .long (dgl dd4 (L4.take 0))), (3, .int (nI 4)), (0, .ref mo)]) hl [0, 2, 1, 3] rfl
              clear hl
              have pk0 : 0 ≤ L4.length ∧ lv_has ls 5 [(4, .int (nI 0)), (1, .long (dgl dd4 (L4.take 0))), (3, .int (nI 4)), (0, .ref mo)] := ⟨(Nat.zero_le _), hl0⟩
              clear  hl0 
              obtain ⟨k4, er4⟩ : ∃ k4 : Nat, k4 = 0 := ⟨0, rfl⟩
              have pk1 : L4.length - k4 < (L4.length - 0) + 1 ∧ k4 ≤ L4.length ∧ lv_has ls 5 [(4, .int (nI k4)), (1, .long (dgl dd4 (L4.take k4))), (3, .int (nI 4)), (0, .ref mo)] := ⟨by omega, by rw [er4]; exact pk0⟩
              clear pk0 er4
              generalize (L4.length - 0) + 1 = nr4 at pk1
              induction nr4 generalizing k4 ls with
              | zero => exact absurd pk1.1 (Nat.not_lt_zero _)
              | succ nr4 ihr4 =>
                obtain ⟨hnr4, hk94, hl⟩ := pk1
                refine lv_iload hx hb dX3_digest_47 (lv_at hl 0 rfl) ?_
                refine lv_aload_n hx hb dX3_digest_49 rfl (lv_at hl 3 rfl) ?_
                refine va_get (D := G) (ci := 3) (v := .ref si) (C := RX3) (T := TX3) (N := 6) hx hb hts iX3_digest_X3 hown hK hP 0 rfl rfl 2 (by decide) (hts (.fieldLink RX3 14 "GhostPantryModel" "sizes" "[I") (by decide +kernel)) (fun _ h9 => h9) rfl dX3_digest_50 ?_
                refine lv_iload_n hx hb dX3_digest_53 rfl (lv_at hl 2 rfl) ?_
                refine g_iald hx hb hK hP 2 0 rfl rfl (i := 4) (by decide) (by decide) dX3_digest_54 (v := (nI L4.length)) (hM.2.2.2.2.2.2.2.2.2.1) ?_
                refine g_icmp_ge (tgt := 81) hx hb dX3_digest_55 (by decide) (by omega) (by omega) (fun c_58 => ?_) (fun c_58 => ?_)
                · have ek4 : L4.take k4 = L4 := List.take_of_length_le (by omega)
                  have hl1 : lv_has ls 5 [(4, .int (nI k4)), (1, .long (dgl dd4 L4)), (3, .int (nI 4)), (0, .ref mo)] := by rw [ek4] at hl; exact hl
                  clear hl
                  have hl := hl1
                  clear hl1
                  refine lv_iinc (v := (nI 5)) (lv' := [(3, .int (nI 5)), (4, .int (nI k4)), (1, .long (dgl dd4 L4)), (0, .ref mo)]) hx hb dX3_digest_81 hl (k := 2) rfl (by decide +kernel) (by decide) rfl (fun ls hl => ?_)
                  refine lv_goto (tgt := 38) hx hb dX3_digest_84 (by decide) ?_
                  refine lv_iload_n hx hb dX3_digest_38 rfl (lv_at hl 0 rfl) ?_
                  refine lv_bipush (v := (nI 7)) hx hb dX3_digest_39 (by decide +kernel) ?_
                  refine g_icmp_ge (tgt := 87) hx hb dX3_digest_41 (by decide) (by decide) (by decide) (fun c_59 => False.elim (by omega)) (fun c_59 => ?_)
                  refine lv_iconst (v := (nI 0)) hx hb dX3_digest_44 (by decide +kernel) ?_
                  refine lv_istore (lv' := [(4, .int (nI 0)), (3, .int (nI 5)), (1, .long (dgl dd4 L4)), (0, .ref mo)]) hx hb dX3_digest_45 hl (by decide) rfl (fun ls hl1 => ?_)
                  clear hl
                  have hl := hl1
                  clear hl1
                  obtain ⟨dd5, e_dd5⟩ : ∃ z : Int64, z = (dgl dd4 L4) := ⟨_, rfl⟩
                  have hl1 : lv_has ls 5 [(4, .int (nI 0)), (3, .int (nI 5)), (1, .long dd5), (0, .ref mo)] := by rw [e_dd5]; exact hl
                  clear hl
                  have hl := hl1
                  clear hl1
                  have hl1 : lv_has ls 5 [(4, .int (nI 0)), (3, .int (nI 5)), (1, .long (dgl dd5 (P.take 0))), (0, .ref mo)] := by rw [lg_0]; exact hl
                  clear hl
                  have hl := hl1
                  clear hl1
                  have hl0 := lv_sub (l' := [(4, .int (nI 0)), (1, .long (dgl dd5 (P.take 0))), (3, .int (nI 5)), (0, .ref mo)]) hl [0, 2, 1, 3] rfl
                  clear hl
                  have pk0 : 0 ≤ P.length ∧ lv_has ls 5 [(4, .int (nI 0)), (1, .long (dgl dd5 (P.take 0))), (3, .int (nI 5)), (0, .ref mo)] := ⟨(Nat.zero_le _), hl0⟩
                  clear  hl0 
                  obtain ⟨k5, er5⟩ : ∃ k5 : Nat, k5 = 0 := ⟨0, rfl⟩
                  have pk1 : P.length - k5 < (P.length - 0) + 1 ∧ k5 ≤ P.length ∧ lv_has ls 5 [(4, .int (nI k5)), (1, .long (dgl dd5 (P.take k5))), (3, .int (nI 5)), (0, .ref mo)] := ⟨by omega, by rw [er5]; exact pk0⟩
                  clear pk0 er5
                  generalize (P.length - 0) + 1 = nr5 at pk1
                  induction nr5 generalizing k5 ls with
                  | zero => exact absurd pk1.1 (Nat.not_lt_zero _)
                  | succ nr5 ihr5 =>
                    obtain ⟨hnr5, hk95, hl⟩ := pk1
                    refine lv_iload hx hb dX3_digest_47 (lv_at hl 0 rfl) ?_
                    refine lv_aload_n hx hb dX3_digest_49 rfl (lv_at hl 3 rfl) ?_
                    refine va_get (D := G) (ci := 3) (v := .ref si) (C := RX3) (T := TX3) (N := 6) hx hb hts iX3_digest_X3 hown hK hP 0 rfl rfl 2 (by decide) (hts (.fieldLink RX3 14 "GhostPantryModel" "sizes" "[I") (by decide +kernel)) (fun _ h9 => h9) rfl dX3_digest_50 ?_
                    refine lv_iload_n hx hb dX3_digest_53 rfl (lv_at hl 2 rfl) ?_
                    refine g_iald hx hb hK hP 2 0 rfl rfl (i := 5) (by decide) (by decide) dX3_digest_54 (v := (nI P.length)) (hM.2.2.2.2.2.2.2.2.2.2.1) ?_
                    refine g_icmp_ge (tgt := 81) hx hb dX3_digest_55 (by decide) (by omega) (by omega) (fun c_60 => ?_) (fun c_60 => ?_)
                    · have ek5 : P.take k5 = P := List.take_of_length_le (by omega)
                      have hl1 : lv_has ls 5 [(4, .int (nI k5)), (1, .long (dgl dd5 P)), (3, .int (nI 5)), (0, .ref mo)] := by rw [ek5] at hl; exact hl
                      clear hl
                      have hl := hl1
                      clear hl1
                      refine lv_iinc (v := (nI 6)) (lv' := [(3, .int (nI 6)), (4, .int (nI k5)), (1, .long (dgl dd5 P)), (0, .ref mo)]) hx hb dX3_digest_81 hl (k := 2) rfl (by decide +kernel) (by decide) rfl (fun ls hl => ?_)
                      refine lv_goto (tgt := 38) hx hb dX3_digest_84 (by decide) ?_
                      refine lv_iload_n hx hb dX3_digest_38 rfl (lv_at hl 0 rfl) ?_
                      refine lv_bipush (v := (nI 7)) hx hb dX3_digest_39 (by decide +kernel) ?_
                      refine g_icmp_ge (tgt := 87) hx hb dX3_digest_41 (by decide) (by decide) (by decide) (fun c_61 => False.elim (by omega)) (fun c_61 => ?_)
                      refine lv_iconst (v := (nI 0)) hx hb dX3_digest_44 (by decide +kernel) ?_
                      refine lv_istore (lv' := [(4, .int (nI 0)), (3, .int (nI 6)), (1, .long (dgl dd5 P)), (0, .ref mo)]) hx hb dX3_digest_45 hl (by decide) rfl (fun ls hl1 => ?_)
                      clear hl
                      have hl := hl1
                      clear hl1
                      obtain ⟨dd6, e_dd6⟩ : ∃ z : Int64, z = (dgl dd5 P) := ⟨_, rfl⟩
                      have hl1 : lv_has ls 5 [(4, .int (nI 0)), (3, .int (nI 6)), (1, .long dd6), (0, .ref mo)] := by rw [e_dd6]; exact hl
                      clear hl
                      have hl := hl1
                      clear hl1
                      have hl1 : lv_has ls 5 [(4, .int (nI 0)), (3, .int (nI 6)), (1, .long (dgl dd6 (M.take 0))), (0, .ref mo)] := by rw [lg_0]; exact hl
                      clear hl
                      have hl := hl1
                      clear hl1
                      have hl0 := lv_sub (l' := [(4, .int (nI 0)), (1, .long (dgl dd6 (M.take 0))), (3, .int (nI 6)), (0, .ref mo)]) hl [0, 2, 1, 3] rfl
                      clear hl
                      have pk0 : 0 ≤ M.length ∧ lv_has ls 5 [(4, .int (nI 0)), (1, .long (dgl dd6 (M.take 0))), (3, .int (nI 6)), (0, .ref mo)] := ⟨(Nat.zero_le _), hl0⟩
                      clear  hl0 
                      obtain ⟨k6, er6⟩ : ∃ k6 : Nat, k6 = 0 := ⟨0, rfl⟩
                      have pk1 : M.length - k6 < (M.length - 0) + 1 ∧ k6 ≤ M.length ∧ lv_has ls 5 [(4, .int (nI k6)), (1, .long (dgl dd6 (M.take k6))), (3, .int (nI 6)), (0, .ref mo)] := ⟨by omega, by rw [er6]; exact pk0⟩
                      clear pk0 er6
                      generalize (M.length - 0) + 1 = nr6 at pk1
                      induction nr6 generalizing k6 ls with
                      | zero => exact absurd pk1.1 (Nat.not_lt_zero _)
                      | succ nr6 ihr6 =>
                        obtain ⟨hnr6, hk96, hl⟩ := pk1
                        refine lv_iload hx hb dX3_digest_47 (lv_at hl 0 rfl) ?_
                        refine lv_aload_n hx hb dX3_digest_49 rfl (lv_at hl 3 rfl) ?_
                        refine va_get (D := G) (ci := 3) (v := .ref si) (C := RX3) (T := TX3) (N := 6) hx hb hts iX3_digest_X3 hown hK hP 0 rfl rfl 2 (by decide) (hts (.fieldLink RX3 14 "GhostPantryModel" "sizes" "[I") (by decide +kernel)) (fun _ h9 => h9) rfl dX3_digest_50 ?_
                        refine lv_iload_n hx hb dX3_digest_53 rfl (lv_at hl 2 rfl) ?_
                        refine g_iald hx hb hK hP 2 0 rfl rfl (i := 6) (by decide) (by decide) dX3_digest_54 (v := (nI M.length)) (hM.2.2.2.2.2.2.2.2.2.2.2.1) ?_
                        refine g_icmp_ge (tgt := 81) hx hb dX3_digest_55 (by decide) (by omega) (by omega) (fun c_62 => ?_) (fun c_62 => ?_)
                        · have ek6 : M.take k6 = M := List.take_of_length_le (by omega)
                          have hl1 : lv_has ls 5 [(4, .int (nI k6)), (1, .long (dgl dd6 M)), (3, .int (nI 6)), (0, .ref mo)] := by rw [ek6] at hl; exact hl
                          clear hl
                          have hl := hl1
                          clear hl1
                          refine lv_iinc (v := (nI 7)) (lv' := [(3, .int (nI 7)), (4, .int (nI k6)), (1, .long (dgl dd6 M)), (0, .ref mo)]) hx hb dX3_digest_81 hl (k := 2) rfl (by decide +kernel) (by decide) rfl (fun ls hl => ?_)
                          refine lv_goto (tgt := 38) hx hb dX3_digest_84 (by decide) ?_
                          refine lv_iload_n hx hb dX3_digest_38 rfl (lv_at hl 0 rfl) ?_
                          refine lv_bipush (v := (nI 7)) hx hb dX3_digest_39 (by decide +kernel) ?_
                          refine g_icmp_ge (tgt := 87) hx hb dX3_digest_41 (by decide) (by decide) (by decide) (fun c_63 => ?_) (fun c_63 => False.elim (by omega))
                          refine lv_iconst (v := (nI 0)) hx hb dX3_digest_87 (by decide +kernel) ?_
                          refine lv_istore_n (lv' := [(3, .int (nI 0)), (4, .int (nI k6)), (1, .long (dgl dd6 M)), (0, .ref mo)]) hx hb dX3_digest_88 rfl hl (by decide) rfl (fun ls hl1 => ?_)
                          clear hl
                          have hl := hl1
                          clear hl1
                          obtain ⟨dd7, e_dd7⟩ : ∃ z : Int64, z = (dgl dd6 M) := ⟨_, rfl⟩
                          have hl1 : lv_has ls 5 [(3, .int (nI 0)), (4, .int (nI k6)), (1, .long dd7), (0, .ref mo)] := by rw [e_dd7]; exact hl
                          clear hl
                          have hl := hl1
                          clear hl1
                          have hl1 : lv_has ls 5 [(3, .int (nI 0)), (4, .int (nI k6)), (1, .long (dgk KA TA 0 dd7)), (0, .ref mo)] := hl
                          clear hl
                          have hl := hl1
                          clear hl1
                          have hl0 := lv_sub (l' := [(3, .int (nI 0)), (1, .long (dgk KA TA 0 dd7)), (0, .ref mo)]) hl [0, 2, 3] rfl
                          clear hl
                          have pk0 : 0 ≤ 30 ∧ lv_has ls 5 [(3, .int (nI 0)), (1, .long (dgk KA TA 0 dd7)), (0, .ref mo)] := ⟨(by decide), hl0⟩
                          clear  hl0 
                          obtain ⟨kz, ez⟩ : ∃ kz : Nat, kz = 0 := ⟨0, rfl⟩
                          have pk1 : 30 - kz < (30 - 0) + 1 ∧ kz ≤ 30 ∧ lv_has ls 5 [(3, .int (nI kz)), (1, .long (dgk KA TA kz dd7)), (0, .ref mo)] := ⟨by omega, by rw [ez]; exact pk0⟩
                          clear pk0 ez
                          generalize (30 - 0) + 1 = nz at pk1
                          induction nz generalizing kz ls with
                          | zero => exact absurd pk1.1 (Nat.not_lt_zero _)
                          | succ nz ihz =>
                            obtain ⟨hnz, hkz, hl⟩ := pk1
                            refine lv_iload_n hx hb dX3_digest_89 rfl (lv_at hl 0 rfl) ?_
                            refine lv_bipush (v := (nI 30)) hx hb dX3_digest_90 (by decide +kernel) ?_
                            refine g_icmp_ge (tgt := 129) hx hb dX3_digest_92 (by decide) (by omega) (by decide) (fun c_64 => ?_) (fun c_64 => ?_)
                            · refine lv_lload_n hx hb dX3_digest_129 rfl (lv_at hl 1 rfl) ?_
                              have ez : kz = 30 := by omega
                              have e9 : (dgk KA TA kz dd7) = dgs rc M ((L1, L2, L3, L4), P, bo, nA, nH, nP, nM, KA, TA) := by rw [ez, e_dd7, e_dd6, e_dd5, e_dd4, e_dd3, e_dd2, e_dd1]; rfl
                              have hP9 := hP.sub (ws' := [(mo, .inr (3, [.int (nI 0), .ref rr, .ref si, .ref nb, .ref ak, .ref ha])), (rr, .inl (cR, 7, .inr (.inr (.inr (.inr (RW [b0, b1, b2, b3, b4, b5, b6])))))), (si, .inl (cI, 7, .inl (D 0))), (nb, .inl (cI, 6, .inl (D 1))), (ak, .inl (cI, 30, .inl (D 2))), (ha, .inl (cI, 30, .inl (D 3))), (b0, .inl (cI, 31, .inl (D 4))), (b1, .inl (cI, 31, .inl (D 5))), (b2, .inl (cI, 31, .inl (D 6))), (b3, .inl (cI, 31, .inl (D 7))), (b4, .inl (cI, 31, .inl (D 8))), (b5, .inl (cI, 31, .inl (D 9))), (b6, .inl (cI, 31, .inl (D 10)))]) [0, 1, 2, 3, 4, 5, 6, 7, 8, 9, 10, 11, 12] rfl
                              have hD9 := hD.sub (ws' := [(mo, .inr (3, [.int (nI 0), .ref rr, .ref si, .ref nb, .ref ak, .ref ha])), (rr, .inl (cR, 7, .inr (.inr (.inr (.inr (RW [b0, b1, b2, b3, b4, b5, b6])))))), (si, .inl (cI, 7, .inl (D 0))), (nb, .inl (cI, 6, .inl (D 1))), (ak, .inl (cI, 30, .inl (D 2))), (ha, .inl (cI, 30, .inl (D 3))), (b0, .inl (cI, 31, .inl (D 4))), (b1, .inl (cI, 31, .inl (D 5))), (b2, .inl (cI, 31, .inl (D 6))), (b3, .inl (cI, 31, .inl (D 7))), (b4, .inl (cI, 31, .inl (D 8))), (b5, .inl (cI, 31, .inl (D 9))), (b6, .inl (cI, 31, .inl (D 10)))]) [0, 1, 2, 3, 4, 5, 6, 7, 8, 9, 10, 11, 12] (by decide) rfl
                              exact W.lret (v := (dgk KA TA kz dd7)) hx hb hr (fun t ht hW => ⟨⟨(dgk KA TA kz dd7), (), rfl, e9, g_at hP9 hK hD9 ht hW⟩, hS.F ht⟩) hS.2.2 dX3_digest_130
                            · refine lv_lload_n hx hb dX3_digest_95 rfl (lv_at hl 1 rfl) ?_
                              refine lv_ldc2 (v := 31) hx hb hown (hts (.constantLong RX3 124 (31)) (by decide +kernel)) dX3_digest_96 ?_
                              refine lv_lmul hx hb dX3_digest_99 ?_
                              refine lv_aload_n hx hb dX3_digest_100 rfl (lv_at hl 2 rfl) ?_
                              refine va_get (D := G) (ci := 3) (v := .ref ak) (C := RX3) (T := TX3) (N := 6) hx hb hts iX3_digest_X3 hown hK hP 0 rfl rfl 4 (by decide) (hts (.fieldLink RX3 21 "GhostPantryModel" "asks" "[I") (by decide +kernel)) (fun _ h9 => h9) rfl dX3_digest_101 ?_
                              refine lv_iload_n hx hb dX3_digest_104 rfl (lv_at hl 0 rfl) ?_
                              refine g_iald hx hb hK hP 4 0 rfl rfl (i := kz) (by omega) (by decide) dX3_digest_105 (v := (KA kz)) (hM.2.2.2.2.2.2.2.2.2.2.2.2.2.2.2.2.2.2.1 _ (by omega)) ?_
                              refine lv_i2l hx hb dX3_digest_106 rfl ?_
                              refine lv_ladd hx hb dX3_digest_107 ?_
                              refine lv_lstore_n (lv' := [(1, .long (dg (dgk KA TA kz dd7) ((KA kz)))), (3, .int (nI kz)), (0, .ref mo)]) hx hb dX3_digest_108 rfl hl (by decide) rfl (fun ls hl1 => ?_)
                              clear hl
                              have hl := hl1
                              clear hl1
                              refine lv_lload_n hx hb dX3_digest_109 rfl (lv_at hl 0 rfl) ?_
                              refine lv_ldc2 (v := 31) hx hb hown (hts (.constantLong RX3 124 (31)) (by decide +kernel)) dX3_digest_110 ?_
                              refine lv_lmul hx hb dX3_digest_113 ?_
                              refine lv_aload_n hx hb dX3_digest_114 rfl (lv_at hl 2 rfl) ?_
                              refine va_get (D := G) (ci := 3) (v := .ref ha) (C := RX3) (T := TX3) (N := 6) hx hb hts iX3_digest_X3 hown hK hP 0 rfl rfl 5 (by decide) (hts (.fieldLink RX3 24 "GhostPantryModel" "hits" "[I") (by decide +kernel)) (fun _ h9 => h9) rfl dX3_digest_115 ?_
                              refine lv_iload_n hx hb dX3_digest_118 rfl (lv_at hl 1 rfl) ?_
                              refine g_iald hx hb hK hP 5 0 rfl rfl (i := kz) (by omega) (by decide) dX3_digest_119 (v := (TA kz)) (hM.2.2.2.2.2.2.2.2.2.2.2.2.2.2.2.2.2.2.2 _ (by omega)) ?_
                              refine lv_i2l hx hb dX3_digest_120 rfl ?_
                              refine lv_ladd hx hb dX3_digest_121 ?_
                              refine lv_lstore_n (lv' := [(1, .long (dg (dg (dgk KA TA kz dd7) ((KA kz))) ((TA kz)))), (3, .int (nI kz)), (0, .ref mo)]) hx hb dX3_digest_122 rfl hl (by decide) rfl (fun ls hl1 => ?_)
                              clear hl
                              have hl := hl1
                              clear hl1
                              refine lv_iinc (v := (nI (kz + 1))) (lv' := [(3, .int (nI (kz + 1))), (1, .long (dg (dg (dgk KA TA kz dd7) ((KA kz))) ((TA kz)))), (0, .ref mo)]) hx hb dX3_digest_123 hl (k := 1) rfl (nI_1 _) (by decide) rfl (fun ls hl => ?_)
                              refine lv_goto (tgt := 89) hx hb dX3_digest_126 (by decide) ?_
                              have hl1 : lv_has ls 5 [(3, .int (nI (kz + 1))), (1, .long (dgk KA TA (kz + 1) dd7)), (0, .ref mo)] := hl
                              clear hl
                              have hl := hl1
                              clear hl1
                              have hl9 := lv_sub (l' := [(3, .int (nI (kz + 1))), (1, .long (dgk KA TA (kz + 1) dd7)), (0, .ref mo)]) hl [0, 1, 2] rfl
                              exact ihz _ _ ⟨by omega, (by omega), hl9⟩
                        · refine lv_lload_n hx hb dX3_digest_58 rfl (lv_at hl 1 rfl) ?_
                          refine lv_ldc2 (v := 31) hx hb hown (hts (.constantLong RX3 124 (31)) (by decide +kernel)) dX3_digest_59 ?_
                          refine lv_lmul hx hb dX3_digest_62 ?_
                          refine lv_aload_n hx hb dX3_digest_63 rfl (lv_at hl 3 rfl) ?_
                          refine va_get (D := G) (ci := 3) (v := .ref rr) (C := RX3) (T := TX3) (N := 6) hx hb hts iX3_digest_X3 hown hK hP 0 rfl rfl 1 (by decide) (hts (.fieldLink RX3 11 "GhostPantryModel" "rows" "[[I") (by decide +kernel)) (fun _ h9 => h9) rfl dX3_digest_64 ?_
                          refine lv_iload_n hx hb dX3_digest_67 rfl (lv_at hl 2 rfl) ?_
                          refine g_aald hx hb hK hP 1 1 rfl rfl (i := 6) (by decide) (by decide) dX3_digest_68 (b := b6) (rfl) ?_
                          refine lv_iload hx hb dX3_digest_69 (lv_at hl 0 rfl) ?_
                          refine g_iald hx hb hK hP 12 0 rfl rfl (i := k6) (by omega) (by decide) dX3_digest_71 (v := (M.getD k6 0)) ((show Rw _ M from hM.2.2.2.2.2.1) _ (by omega)) ?_
                          refine lv_i2l hx hb dX3_digest_72 rfl ?_
                          refine lv_ladd hx hb dX3_digest_73 ?_
                          refine lv_lstore_n (lv' := [(1, .long (dg (dgl dd6 (M.take k6)) ((M.getD k6 0)))), (4, .int (nI k6)), (3, .int (nI 6)), (0, .ref mo)]) hx hb dX3_digest_74 rfl hl (by decide) rfl (fun ls hl1 => ?_)
                          clear hl
                          have hl := hl1
                          clear hl1
                          refine lv_iinc (v := (nI (k6 + 1))) (lv' := [(4, .int (nI (k6 + 1))), (1, .long (dg (dgl dd6 (M.take k6)) ((M.getD k6 0)))), (3, .int (nI 6)), (0, .ref mo)]) hx hb dX3_digest_75 hl (k := 1) rfl (nI_1 _) (by decide) rfl (fun ls hl => ?_)
                          refine lv_goto (tgt := 47) hx hb dX3_digest_78 (by decide) ?_
                          have hl1 : lv_has ls 5 [(4, .int (nI (k6 + 1))), (1, .long (dgl dd6 (M.take (k6 + 1)))), (3, .int (nI 6)), (0, .ref mo)] := by rw [← dgl_snoc (by omega)]; exact hl
                          clear hl
                          have hl := hl1
                          clear hl1
                          have hl9 := lv_sub (l' := [(4, .int (nI (k6 + 1))), (1, .long (dgl dd6 (M.take (k6 + 1)))), (3, .int (nI 6)), (0, .ref mo)]) hl [0, 1, 2, 3] rfl
                          exact ihr6 _ _ ⟨by omega, (by omega), hl9⟩
                    · refine lv_lload_n hx hb dX3_digest_58 rfl (lv_at hl 1 rfl) ?_
                      refine lv_ldc2 (v := 31) hx hb hown (hts (.constantLong RX3 124 (31)) (by decide +kernel)) dX3_digest_59 ?_
                      refine lv_lmul hx hb dX3_digest_62 ?_
                      refine lv_aload_n hx hb dX3_digest_63 rfl (lv_at hl 3 rfl) ?_
                      refine va_get (D := G) (ci := 3) (v := .ref rr) (C := RX3) (T := TX3) (N := 6) hx hb hts iX3_digest_X3 hown hK hP 0 rfl rfl 1 (by decide) (hts (.fieldLink RX3 11 "GhostPantryModel" "rows" "[[I") (by decide +kernel)) (fun _ h9 => h9) rfl dX3_digest_64 ?_
                      refine lv_iload_n hx hb dX3_digest_67 rfl (lv_at hl 2 rfl) ?_
                      refine g_aald hx hb hK hP 1 1 rfl rfl (i := 5) (by decide) (by decide) dX3_digest_68 (b := b5) (rfl) ?_
                      refine lv_iload hx hb dX3_digest_69 (lv_at hl 0 rfl) ?_
                      refine g_iald hx hb hK hP 11 0 rfl rfl (i := k5) (by omega) (by decide) dX3_digest_71 (v := (P.getD k5 0)) ((show Rw _ P from hM.2.2.2.2.1) _ (by omega)) ?_
                      refine lv_i2l hx hb dX3_digest_72 rfl ?_
                      refine lv_ladd hx hb dX3_digest_73 ?_
                      refine lv_lstore_n (lv' := [(1, .long (dg (dgl dd5 (P.take k5)) ((P.getD k5 0)))), (4, .int (nI k5)), (3, .int (nI 5)), (0, .ref mo)]) hx hb dX3_digest_74 rfl hl (by decide) rfl (fun ls hl1 => ?_)
                      clear hl
                      have hl := hl1
                      clear hl1
                      refine lv_iinc (v := (nI (k5 + 1))) (lv' := [(4, .int (nI (k5 + 1))), (1, .long (dg (dgl dd5 (P.take k5)) ((P.getD k5 0)))), (3, .int (nI 5)), (0, .ref mo)]) hx hb dX3_digest_75 hl (k := 1) rfl (nI_1 _) (by decide) rfl (fun ls hl => ?_)
                      refine lv_goto (tgt := 47) hx hb dX3_digest_78 (by decide) ?_
                      have hl1 : lv_has ls 5 [(4, .int (nI (k5 + 1))), (1, .long (dgl dd5 (P.take (k5 + 1)))), (3, .int (nI 5)), (0, .ref mo)] := by rw [← dgl_snoc (by omega)]; exact hl
                      clear hl
                      have hl := hl1
                      clear hl1
                      have hl9 := lv_sub (l' := [(4, .int (nI (k5 + 1))), (1, .long (dgl dd5 (P.take (k5 + 1)))), (3, .int (nI 5)), (0, .ref mo)]) hl [0, 1, 2, 3] rfl
                      exact ihr5 _ _ ⟨by omega, (by omega), hl9⟩
                · refine lv_lload_n hx hb dX3_digest_58 rfl (lv_at hl 1 rfl) ?_
                  refine lv_ldc2 (v := 31) hx hb hown (hts (.constantLong RX3 124 (31)) (by decide +kernel)) dX3_digest_59 ?_
                  refine lv_lmul hx hb dX3_digest_62 ?_
                  refine lv_aload_n hx hb dX3_digest_63 rfl (lv_at hl 3 rfl) ?_
                  refine va_get (D := G) (ci := 3) (v := .ref rr) (C := RX3) (T := TX3) (N := 6) hx hb hts iX3_digest_X3 hown hK hP 0 rfl rfl 1 (by decide) (hts (.fieldLink RX3 11 "GhostPantryModel" "rows" "[[I") (by decide +kernel)) (fun _ h9 => h9) rfl dX3_digest_64 ?_
                  refine lv_iload_n hx hb dX3_digest_67 rfl (lv_at hl 2 rfl) ?_
                  refine g_aald hx hb hK hP 1 1 rfl rfl (i := 4) (by decide) (by decide) dX3_digest_68 (b := b4) (rfl) ?_
                  refine lv_iload hx hb dX3_digest_69 (lv_at hl 0 rfl) ?_
                  refine g_iald hx hb hK hP 10 0 rfl rfl (i := k4) (by omega) (by decide) dX3_digest_71 (v := (L4.getD k4 0)) ((show Rw _ L4 from hM.2.2.2.1) _ (by omega)) ?_
                  refine lv_i2l hx hb dX3_digest_72 rfl ?_
                  refine lv_ladd hx hb dX3_digest_73 ?_
                  refine lv_lstore_n (lv' := [(1, .long (dg (dgl dd4 (L4.take k4)) ((L4.getD k4 0)))), (4, .int (nI k4)), (3, .int (nI 4)), (0, .ref mo)]) hx hb dX3_digest_74 rfl hl (by decide) rfl (fun ls hl1 => ?_)
                  clear hl
                  have hl := hl1
                  clear hl1
                  refine lv_iinc (v := (nI (k4 + 1))) (lv' := [(4, .int (nI (k4 + 1))), (1, .long (dg (dgl dd4 (L4.take k4)) ((L4.getD k4 0)))), (3, .int (nI 4)), (0, .ref mo)]) hx hb dX3_digest_75 hl (k := 1) rfl (nI_1 _) (by decide) rfl (fun ls hl => ?_)
                  refine lv_goto (tgt := 47) hx hb dX3_digest_78 (by decide) ?_
                  have hl1 : lv_has ls 5 [(4, .int (nI (k4 + 1))), (1, .long (dgl dd4 (L4.take (k4 + 1)))), (3, .int (nI 4)), (0, .ref mo)] := by rw [← dgl_snoc (by omega)]; exact hl
                  clear hl
                  have hl := hl1
                  clear hl1
                  have hl9 := lv_sub (l' := [(4, .int (nI (k4 + 1))), (1, .long (dgl dd4 (L4.take (k4 + 1)))), (3, .int (nI 4)), (0, .ref mo)]) hl [0, 1, 2, 3] rfl
                  exact ihr4 _ _ ⟨by omega, (by omega), hl9⟩
            · refine lv_lload_n hx hb dX3_digest_58 rfl (lv_at hl 1 rfl) ?_
              refine lv_ldc2 (v := 31) hx hb hown (hts (.constantLong RX3 124 (31)) (by decide +kernel)) dX3_digest_59 ?_
              refine lv_lmul hx hb dX3_digest_62 ?_
              refine lv_aload_n hx hb dX3_digest_63 rfl (lv_at hl 3 rfl) ?_
              refine va_get (D := G) (ci := 3) (v := .ref rr) (C := RX3) (T := TX3) (N := 6) hx hb hts iX3_digest_X3 hown hK hP 0 rfl rfl 1 (by decide) (hts (.fieldLink RX3 11 "GhostPantryModel" "rows" "[[I") (by decide +kernel)) (fun _ h9 => h9) rfl dX3_digest_64 ?_
              refine lv_iload_n hx hb dX3_digest_67 rfl (lv_at hl 2 rfl) ?_
              refine g_aald hx hb hK hP 1 1 rfl rfl (i := 3) (by decide) (by decide) dX3_digest_68 (b := b3) (rfl) ?_
              refine lv_iload hx hb dX3_digest_69 (lv_at hl 0 rfl) ?_
              refine g_iald hx hb hK hP 9 0 rfl rfl (i := k3) (by omega) (by decide) dX3_digest_71 (v := (L3.getD k3 0)) ((show Rw _ L3 from hM.2.2.1) _ (by omega)) ?_
              refine lv_i2l hx hb dX3_digest_72 rfl ?_
              refine lv_ladd hx hb dX3_digest_73 ?_
              refine lv_lstore_n (lv' := [(1, .long (dg (dgl dd3 (L3.take k3)) ((L3.getD k3 0)))), (4, .int (nI k3)), (3, .int (nI 3)), (0, .ref mo)]) hx hb dX3_digest_74 rfl hl (by decide) rfl (fun ls hl1 => ?_)
              clear hl
              have hl := hl1
              clear hl1
              refine lv_iinc (v := (nI (k3 + 1))) (lv' := [(4, .int (nI (k3 + 1))), (1, .long (dg (dgl dd3 (L3.take k3)) ((L3.getD k3 0)))), (3, .int (nI 3)), (0, .ref mo)]) hx hb dX3_digest_75 hl (k := 1) rfl (nI_1 _) (by decide) rfl (fun ls hl => ?_)
              refine lv_goto (tgt := 47) hx hb dX3_digest_78 (by decide) ?_
              have hl1 : lv_has ls 5 [(4, .int (nI (k3 + 1))), (1, .long (dgl dd3 (L3.take (k3 + 1)))), (3, .int (nI 3)), (0, .ref mo)] := by rw [← dgl_snoc (by omega)]; exact hl
              clear hl
              have hl := hl1
              clear hl1
              have hl9 := lv_sub (l' := [(4, .int (nI (k3 + 1))), (1, .long (dgl dd3 (L3.take (k3 + 1)))), (3, .int (nI 3)), (0, .ref mo)]) hl [0, 1, 2, 3] rfl
              exact ihr3 _ _ ⟨by omega, (by omega), hl9⟩
        · refine lv_lload_n hx hb dX3_digest_58 rfl (lv_at hl 1 rfl) ?_
          refine lv_ldc2 (v := 31) hx hb hown (hts (.constantLong RX3 124 (31)) (by decide +kernel)) dX3_digest_59 ?_
          refine lv_lmul hx hb dX3_digest_62 ?_
          refine lv_aload_n hx hb dX3_digest_63 rfl (lv_at hl 3 rfl) ?_
          refine va_get (D := G) (ci := 3) (v := .ref rr) (C := RX3) (T := TX3) (N := 6) hx hb hts iX3_digest_X3 hown hK hP 0 rfl rfl 1 (by decide) (hts (.fieldLink RX3 11 "GhostPantryModel" "rows" "[[I") (by decide +kernel)) (fun _ h9 => h9) rfl dX3_digest_64 ?_
          refine lv_iload_n hx hb dX3_digest_67 rfl (lv_at hl 2 rfl) ?_
          refine g_aald hx hb hK hP 1 1 rfl rfl (i := 2) (by decide) (by decide) dX3_digest_68 (b := b2) (rfl) ?_
          refine lv_iload hx hb dX3_digest_69 (lv_at hl 0 rfl) ?_
          refine g_iald hx hb hK hP 8 0 rfl rfl (i := k2) (by omega) (by decide) dX3_digest_71 (v := (L2.getD k2 0)) ((show Rw _ L2 from hM.2.1) _ (by omega)) ?_
          refine lv_i2l hx hb dX3_digest_72 rfl ?_
          refine lv_ladd hx hb dX3_digest_73 ?_
          refine lv_lstore_n (lv' := [(1, .long (dg (dgl dd2 (L2.take k2)) ((L2.getD k2 0)))), (4, .int (nI k2)), (3, .int (nI 2)), (0, .ref mo)]) hx hb dX3_digest_74 rfl hl (by decide) rfl (fun ls hl1 => ?_)
          clear hl
          have hl := hl1
          clear hl1
          refine lv_iinc (v := (nI (k2 + 1))) (lv' := [(4, .int (nI (k2 + 1))), (1, .long (dg (dgl dd2 (L2.take k2)) ((L2.getD k2 0)))), (3, .int (nI 2)), (0, .ref mo)]) hx hb dX3_digest_75 hl (k := 1) rfl (nI_1 _) (by decide) rfl (fun ls hl => ?_)
          refine lv_goto (tgt := 47) hx hb dX3_digest_78 (by decide) ?_
          have hl1 : lv_has ls 5 [(4, .int (nI (k2 + 1))), (1, .long (dgl dd2 (L2.take (k2 + 1)))), (3, .int (nI 2)), (0, .ref mo)] := by rw [← dgl_snoc (by omega)]; exact hl
          clear hl
          have hl := hl1
          clear hl1
          have hl9 := lv_sub (l' := [(4, .int (nI (k2 + 1))), (1, .long (dgl dd2 (L2.take (k2 + 1)))), (3, .int (nI 2)), (0, .ref mo)]) hl [0, 1, 2, 3] rfl
          exact ihr2 _ _ ⟨by omega, (by omega), hl9⟩
    · refine lv_lload_n hx hb dX3_digest_58 rfl (lv_at hl 1 rfl) ?_
      refine lv_ldc2 (v := 31) hx hb hown (hts (.constantLong RX3 124 (31)) (by decide +kernel)) dX3_digest_59 ?_
      refine lv_lmul hx hb dX3_digest_62 ?_
      refine lv_aload_n hx hb dX3_digest_63 rfl (lv_at hl 3 rfl) ?_
      refine va_get (D := G) (ci := 3) (v := .ref rr) (C := RX3) (T := TX3) (N := 6) hx hb hts iX3_digest_X3 hown hK hP 0 rfl rfl 1 (by decide) (hts (.fieldLink RX3 11 "GhostPantryModel" "rows" "[[I") (by decide +kernel)) (fun _ h9 => h9) rfl dX3_digest_64 ?_
      refine lv_iload_n hx hb dX3_digest_67 rfl (lv_at hl 2 rfl) ?_
      refine g_aald hx hb hK hP 1 1 rfl rfl (i := 1) (by decide) (by decide) dX3_digest_68 (b := b1) (rfl) ?_
      refine lv_iload hx hb dX3_digest_69 (lv_at hl 0 rfl) ?_
      refine g_iald hx hb hK hP 7 0 rfl rfl (i := k1) (by omega) (by decide) dX3_digest_71 (v := (L1.getD k1 0)) ((show Rw _ L1 from hM.1) _ (by omega)) ?_
      refine lv_i2l hx hb dX3_digest_72 rfl ?_
      refine lv_ladd hx hb dX3_digest_73 ?_
      refine lv_lstore_n (lv' := [(1, .long (dg (dgl dd1 (L1.take k1)) ((L1.getD k1 0)))), (4, .int (nI k1)), (3, .int (nI 1)), (0, .ref mo)]) hx hb dX3_digest_74 rfl hl (by decide) rfl (fun ls hl1 => ?_)
      clear hl
      have hl := hl1
      clear hl1
      refine lv_iinc (v := (nI (k1 + 1))) (lv' := [(4, .int (nI (k1 + 1))), (1, .long (dg (dgl dd1 (L1.take k1)) ((L1.getD k1 0)))), (3, .int (nI 1)), (0, .ref mo)]) hx hb dX3_digest_75 hl (k := 1) rfl (nI_1 _) (by decide) rfl (fun ls hl => ?_)
      refine lv_goto (tgt := 47) hx hb dX3_digest_78 (by decide) ?_
      have hl1 : lv_has ls 5 [(4, .int (nI (k1 + 1))), (1, .long (dgl dd1 (L1.take (k1 + 1)))), (3, .int (nI 1)), (0, .ref mo)] := by rw [← dgl_snoc (by omega)]; exact hl
      clear hl
      have hl := hl1
      clear hl1
      have hl9 := lv_sub (l' := [(4, .int (nI (k1 + 1))), (1, .long (dgl dd1 (L1.take (k1 + 1)))), (3, .int (nI 1)), (0, .ref mo)]) hl [0, 1, 2, 3] rfl
      exact ihr1 _ _ ⟨by omega, (by omega), hl9⟩
