theorem and15 (x : Int32) : ∃ k : Nat, k < 16 ∧ x &&& nI 15 = nI k := by
  have h : ∀ y : BitVec 32, ∃ k : Nat, k < 16 ∧ y &&& 15#32 = BitVec.ofNat 32 k := fun y => ⟨(y &&& 15#32).toNat, by
    rw [BitVec.toNat_and]
    exact Nat.lt_succ_of_le (Nat.and_le_right), by rw [BitVec.ofNat_toNat, BitVec.setWidth_eq]⟩
  obtain ⟨k, hk, e⟩ := h x.toBitVec
  refine ⟨k, hk, ?_⟩
  apply Int32.toBitVec_inj.mp
  rw [Int32.toBitVec_and]
  exact e
theorem sub3 {L i : Nat} (hL : L ≤ 1536) (hi : i ≤ 1536) : (nI L - nI 3 < nI i ↔ ¬ i + 2 < L) := by
  have h1 : (nI L - nI 3).toInt = (L : Int) - (3 : Nat) := pk_sub_toInt (by omega) (by decide)
  have h2 : (nI i).toInt = (i : Int) := nI_toInt (by omega)
  rw [Int32.lt_iff_toInt_lt]
  omega

set_option maxHeartbeats 4000000 in
set_option maxRecDepth 100000 in
theorem law_loop {p : Program} {l : Launch} {e : Env} {s : State} {m : MethodId} {args : Array Value} {below : List Frame} {meth : Method} {c : Code} {Q : State → Prop} {G : va_G} {A : Nat → Prop} {cI cR cJ : ClassId} {gp mo ol b L : Nat} {xs : Nat → Int32} (hx : p.tables.exec = Jvm.exec) (hb : c.code = cL_law) (hml : c.maxLocals = 9) (hown : s.vm.findClass RL = some m.cls) (hts : ∀ w ∈ wsL_law, w.before args s = true) (hst : l.stackTraces = false) (hN : gN s) (hX : gX A s s.heap) (hK : va_K G vwCl [(cI, .int), (cR, .array .int), (cJ, .long)] s) (hA : ∀ q, s.heap.size ≤ q → A q) (hXX : va_X b L xs s s.heap) (hbl : b < s.heap.size) (hbA : ¬ A b) (hL : L ≤ 1536)
    (kE : ∀ (d1 : Drawn) (_ : s.drawn.sameBut d1 lw_cs) (cells slots : Nat) (ls : Array Slot) (H : Heap) (locs : List Loc), va_S A s.heap H locs → cells ≤ 601024 → slots ≤ 7293034 → W p l e room_1 (s.setDrawn d1) m args below meth c H locs cells slots Q (F0 m 899 ls [])) :
    ∀ (n t i : Nat) (d0 : Drawn) (_ : s.drawn.sameBut d0 lw_cs) (cells slots : Nat) (ls : Array Slot) (H : Heap) (locs : List Loc) (st : St) (M : List Int32) (rc : Nat), i = 3 * t → 513 - t < n → i ≤ L → cells + 200 * (513 - t) ≤ 601024 → slots + 4000 * (513 - t) ≤ 7293034 → LI G cI cR cJ gp mo ol s A H locs st M rc → lv_has ls 9 [(4, .int (nI i)), (0, .ref b), (1, .ref gp), (2, .ref mo), (3, .ref ol)] → W p l e room_1 (s.setDrawn d0) m args below meth c H locs cells slots Q (F0 m 23 ls []) := by
  intro n
  induction n with
  | zero => intro t i d0 hd0 cells slots ls H locs st M rc ei hn; exact absurd hn (Nat.not_lt_zero _)
  | succ n ih =>
    intro t i d0 hd0 cells slots ls H locs st M rc ei hn hiL hcc hss hLI hl
    have hS : va_S A s.heap H locs := LI_elim hLI (fun sh r5 r6 aa ta ts t5 r1 r2 r3 r4 j1 j2 j3 j4 f1 f2 f3 f4 lv j5 f5 j6 f6 t1 t2 t3 t4 k1 k2 k3 k4 g1 g2 g3 g4 z1 z2 z3 z4 x1 x2 lw k5 g5 z5 rr si nb ak ha b0 b1 b2 b3 b4 b5 b6 th D of _ _ _ _ _ _ _ _ _ _ _ _ _ hS => hS)
    have hXd : va_X b L xs (s.setDrawn d0) s.heap := va_X.moved (u := s) (Vm.Alike.refl _) hXX
    refine lv_iload hx hb dL_law_23 (lv_at hl 0 rfl) ?_
    refine lv_aload_n hx hb dL_law_25 rfl (lv_at hl 1 rfl) ?_
    refine va_slen hx hb hXd hbl hbA hS dL_law_26 ?_
    refine lv_iconst (v := nI 3) hx hb dL_law_27 (by decide +kernel) ?_
    refine lv_isub hx hb dL_law_28 ?_
    refine lv_icmp_gt (tgt := 899) hx hb dL_law_29 (by decide) (fun _ => kE d0 hd0 cells slots ls H locs hS (by omega) (by omega)) (fun cn => ?_)
    have hi : i + 2 < L := Decidable.byContradiction (fun z => cn ((sub3 hL (by omega)).mpr z))
    refine lv_aload_n hx hb dL_law_32 rfl (lv_at hl 1 rfl) ?_
    refine lv_iload hx hb dL_law_33 (lv_at hl 0 rfl) ?_
    refine g_sld hx hb hXd hbl hbA hS (i := i) (by omega) hL (v := xs i) rfl dL_law_35 ?_
    refine lv_bipush (v := nI 15) hx hb dL_law_36 (by decide +kernel) ?_
    refine lv_iand hx hb dL_law_38 ?_
    have htd := dr_words hts d0
    have hNd : gN (s.setDrawn d0) := gN.same (u := s) rfl hN
    have hXg : gX A (s.setDrawn d0) s.heap := gX.same (u := s) rfl hX
    have hKd : va_K G vwCl [(cI, .int), (cR, .array .int), (cJ, .long)] (s.setDrawn d0) := va_K.moved (u := s) (Vm.Alike.refl _) hK
    have hLd : LI G cI cR cJ gp mo ol (s.setDrawn d0) A H locs st M rc := hLI
    have KN : ∀ (d1 : Drawn) (_ : s.drawn.sameBut d1 lw_cs) (ls : Array Slot) (H : Heap) (locs : List Loc) (st : St) (M : List Int32) (rc : Nat), LI G cI cR cJ gp mo ol s A H locs st M rc → lv_has ls 9 [(4, .int (nI i)), (0, .ref b), (1, .ref gp), (2, .ref mo), (3, .ref ol)] → W p l e room_1 (s.setDrawn d1) m args below meth c H locs (cells + 200) (slots + 4000) Q (F0 m 893 ls []) := by
      intro d1 hd1 ls H locs st M rc hLI hl
      refine lv_iinc (v := nI (i + 3)) (lv' := [(4, .int (nI (i + 3))), (0, .ref b), (1, .ref gp), (2, .ref mo), (3, .ref ol)]) hx hb dL_law_893 hl (k := 0) rfl (nI_add _ 3) (by decide) rfl (fun ls hl => ?_)
      refine lv_goto (tgt := 23) hx hb dL_law_896 (by decide) ?_
      exact ih (t + 1) (i + 3) d1 hd1 (cells + 200) (slots + 4000) ls H locs st M rc (by omega) (by omega) (by omega) (by omega) (by omega) hLI hl
    obtain ⟨k, hk, ek⟩ := and15 (xs i)
    refine g_top (y := nI k) ek ?_
    rcases (show k = 0 ∨ k = 1 ∨ k = 2 ∨ k = 3 ∨ k = 4 ∨ k = 5 ∨ k = 6 ∨ k = 7 ∨ k = 8 ∨ k = 9 ∨ k = 10 ∨ k = 11 ∨ k = 12 ∨ k = 13 ∨ k = 14 ∨ k = 15 by omega) with rfl | rfl | rfl | rfl | rfl | rfl | rfl | rfl | rfl | rfl | rfl | rfl | rfl | rfl | rfl | rfl
    · refine lv_tableIn (off := 77) (tgt := 116) hx hb dL_law_39 (by decide +kernel) (by decide +kernel) (by decide +kernel) (by decide) ?_
      exact law_setRoom (s := s.setDrawn d0) hx hb hml hown htd hst hNd hXg hKd hA hXd hbl hbA hi hL (by omega) (by omega) hLd hl (fun ls H locs st M rc hLI hl => KN d0 hd0 ls H locs st M rc hLI hl)
    · refine lv_tableIn (off := 133) (tgt := 172) hx hb dL_law_39 (by decide +kernel) (by decide +kernel) (by decide +kernel) (by decide) ?_
      exact law_ask (s := s.setDrawn d0) hx hb hml hown htd hst hNd hXg hKd hA hXd hbl hbA hi hL (by omega) (by omega) hLd hl (fun ls H locs st M rc hLI hl => KN d0 hd0 ls H locs st M rc hLI hl)
    · refine lv_tableIn (off := 189) (tgt := 228) hx hb dL_law_39 (by decide +kernel) (by decide +kernel) (by decide +kernel) (by decide) ?_
      exact law_spoil (s := s.setDrawn d0) hx hb hml hown htd hst hNd hXg hKd hA hXd hbl hbA hi hL (by omega) (by omega) hLd hl (fun ls H locs st M rc hLI hl => KN d0 hd0 ls H locs st M rc hLI hl)
    · refine lv_tableIn (off := 245) (tgt := 284) hx hb dL_law_39 (by decide +kernel) (by decide +kernel) (by decide +kernel) (by decide) ?_
      exact law_sweep (s := s.setDrawn d0) hx hb hml hown htd hst hNd hXg hKd hA hXd hbl hbA hi hL (by omega) (by omega) hLd hl (fun ls H locs st M rc hLI hl => KN d0 hd0 ls H locs st M rc hLI hl)
    · refine lv_tableIn (off := 258) (tgt := 297) hx hb dL_law_39 (by decide +kernel) (by decide +kernel) (by decide +kernel) (by decide) ?_
      exact law_add (s := s.setDrawn d0) hx hb hml hown htd hst hNd hXg hKd hA hXd hbl hbA hi hL (by omega) (by omega) hLd hl (fun ls H locs st M rc hLI hl => KN d0 hd0 ls H locs st M rc hLI hl)
    · refine lv_tableIn (off := 314) (tgt := 353) hx hb dL_law_39 (by decide +kernel) (by decide +kernel) (by decide +kernel) (by decide) ?_
      exact law_drop (s := s.setDrawn d0) hx hb hml hown htd hst hNd hXg hKd hA hXd hbl hbA hi hL (by omega) (by omega) hLd hl (fun ls H locs st M rc hLI hl => KN d0 hd0 ls H locs st M rc hLI hl)
    · refine lv_tableIn (off := 370) (tgt := 409) hx hb dL_law_39 (by decide +kernel) (by decide +kernel) (by decide +kernel) (by decide) ?_
      exact law_cook (s := s.setDrawn d0) hx hb hml hown htd hst hNd hXg hKd hA hXd hbl hbA hi hL (by omega) (by omega) hLd hl (fun ls H locs st M rc hLI hl => KN d0 hd0 ls H locs st M rc hLI hl)
    · refine lv_tableIn (off := 383) (tgt := 422) hx hb dL_law_39 (by decide +kernel) (by decide +kernel) (by decide +kernel) (by decide) ?_
      exact law_told (s := s.setDrawn d0) hx hb hml hown htd hst hNd hXg hKd hA hXd hbl hbA hi hL (by omega) (by omega) hLd hl (fun ls H locs st M rc hLI hl => KN d0 hd0 ls H locs st M rc hLI hl)
    · refine lv_tableIn (off := 451) (tgt := 490) hx hb dL_law_39 (by decide +kernel) (by decide +kernel) (by decide +kernel) (by decide) ?_
      exact law_row (s := s.setDrawn d0) hx hb hml hown htd hst hNd hXg hKd hA hXd hbl hbA hi hL (by omega) (by omega) hLd hl (fun ls H locs st M rc hLI hl => KN d0 hd0 ls H locs st M rc hLI hl)
    · refine lv_tableIn (off := 519) (tgt := 558) hx hb dL_law_39 (by decide +kernel) (by decide +kernel) (by decide +kernel) (by decide) ?_
      exact law_count (s := s.setDrawn d0) hx hb hml hown htd hst hNd hXg hKd hA hXd hbl hbA hi hL (by omega) (by omega) hLd hl (fun ls H locs st M rc hLI hl => KN d0 hd0 ls H locs st M rc hLI hl)
    · refine lv_tableIn (off := 575) (tgt := 614) hx hb dL_law_39 (by decide +kernel) (by decide +kernel) (by decide +kernel) (by decide) ?_
      exact law_leaves (s := s.setDrawn d0) hx hb hml hown htd hst hNd hXg hKd hA hXd hbl hbA hi hL (by omega) (by omega) hLd hl (fun ls H locs st M rc hLI hl => KN d0 hd0 ls H locs st M rc hLI hl)
    · refine lv_tableIn (off := 631) (tgt := 670) hx hb dL_law_39 (by decide +kernel) (by decide +kernel) (by decide +kernel) (by decide) ?_
      exact law_foresee (s := s.setDrawn d0) hx hb hml hown htd hst hNd hXg hKd hA hXd hbl hbA hi hL (by omega) (by omega) hLd hl (fun ls H locs st M rc hLI hl => KN d0 hd0 ls H locs st M rc hLI hl)
    · refine lv_tableIn (off := 687) (tgt := 726) hx hb dL_law_39 (by decide +kernel) (by decide +kernel) (by decide +kernel) (by decide) ?_
      exact law_plain (s := s.setDrawn d0) hx hb hml hown htd hst hNd hXg hKd hA hXd hbl hbA hi hL (by omega) (by omega) hLd hl (fun ls H locs st M rc hLI hl => KN d0 hd0 ls H locs st M rc hLI hl)
    · refine lv_tableIn (off := 743) (tgt := 782) hx hb dL_law_39 (by decide +kernel) (by decide +kernel) (by decide +kernel) (by decide) ?_
      exact law_best (s := s.setDrawn d0) hx hb hml hown htd hst hNd hXg hKd hA hXd hbl hbA hi hL (by omega) (by omega) hLd hl (fun ls H locs st M rc hLI hl => KN d0 hd0 ls H locs st M rc hLI hl)
    · refine lv_tableIn (off := 799) (tgt := 838) hx hb dL_law_39 (by decide +kernel) (by decide +kernel) (by decide +kernel) (by decide) ?_
      exact law_mean hd0 hx hb hml hown hts hst hN hX hK hA hXX hbl hbA hi hL (by omega) (by omega) hLI hl KN
    · refine lv_tableIn (off := 840) (tgt := 879) hx hb dL_law_39 (by decide +kernel) (by decide +kernel) (by decide +kernel) (by decide) ?_
      exact law_digest (s := s.setDrawn d0) hx hb hml hown htd hst hNd hXg hKd hA hXd hbl hbA hi hL (by omega) (by omega) hLd hl (fun ls H locs st M rc hLI hl => KN d0 hd0 ls H locs st M rc hLI hl)
