theorem start_arr {args : Array Value} {s : State} {ty : FieldType} (h : (Cond.arrayClass ty).before args s = true) : ∃ cA : ClassId, ArrOfT s cA ty ∧ s.vm.findClass ("[" ++ ty.toString) = some cA := by
  obtain ⟨cA, kA, comp, hfind, hk, hkind⟩ := Cond.arrayClass_spec h
  exact ⟨cA, fun N z => ⟨(fun k h => by cases h), kA, hk, comp, hkind⟩, hfind⟩
theorem start_arr2 {s : State} (h : gAO s) : ∃ cA : ClassId, ArrOfT s cA (.array .int) ∧ s.vm.findClass ("[" ++ (FieldType.array .int).toString) = some cA := by
  obtain ⟨comp, cA, kA, h1, h2, h3, h4, h5⟩ := arrayOverA_spec (args := #[]) (first := s) (s := s) (o := none) (idx := []) h
  exact ⟨cA, fun N z => ⟨(fun k h => by cases h), kA, h3, comp, h4⟩, h5⟩
set_option maxRecDepth 20000 in
theorem start_K {args : Array Value} {s : State} (hts : ∀ w ∈ lw_tbl, w.before args s = true) (hao : gAO s) : ∃ (G : va_G) (cI cR cJ : ClassId), va_K G vwCl [(cI, .int), (cR, .array .int), (cJ, .long)] s := by
  obtain ⟨c0, iS0, hKn0⟩ := u_known (C := RX0) (T := TX0) (N := 2) (n := 2) hts inX0 (hts (.instantiable RX0 2) (by decide +kernel))
  obtain ⟨c1, iS1, hKn1⟩ := u_known (C := RX1) (T := TX1) (N := 7) (n := 7) hts inX1 (hts (.instantiable RX1 7) (by decide +kernel))
  obtain ⟨c2, iS2, hKn2⟩ := u_known (C := RX2) (T := TX2) (N := 11) (n := 11) hts inX2 (hts (.instantiable RX2 11) (by decide +kernel))
  obtain ⟨c3, iS3, hKn3⟩ := u_known (C := RX3) (T := TX3) (N := 6) (n := 6) hts inX3 (hts (.instantiable RX3 6) (by decide +kernel))
  obtain ⟨cI, a1, a2⟩ := start_arr (ty := .int) (hts (.arrayClass .int) (by decide +kernel))
  obtain ⟨cJ, b1, b2⟩ := start_arr (ty := .long) (hts (.arrayClass .long) (by decide +kernel))
  obtain ⟨cR, d1, d2⟩ := start_arr2 hao
  refine ⟨(fun k => if k = 0 then c0 else if k = 1 then c1 else if k = 2 then c2 else c3, fun k => if k = 0 then iS0 else if k = 1 then iS1 else if k = 2 then iS2 else iS3), cI, cR, cJ, ?_, ?_⟩
  · intro k q hq
    match k, hq with
    | 0, hq => cases hq; exact hKn0
    | 1, hq => cases hq; exact hKn1
    | 2, hq => cases hq; exact hKn2
    | 3, hq => cases hq; exact hKn3
    | k + 4, hq => simp at hq
  · intro k q hq
    match k, hq with
    | 0, hq => cases hq; exact ⟨a1, a2⟩
    | 1, hq => cases hq; exact ⟨d1, d2⟩
    | 2, hq => cases hq; exact ⟨b1, b2⟩
    | k + 3, hq => simp at hq
set_option maxRecDepth 20000 in
theorem start_N {args : Array Value} {s : State} (hts : ∀ w ∈ lw_tbl, w.before args s = true) : gN s := by
  have f : ∀ w : Cond, w.onTables = true → w ∈ lw_tbl → va_Nw w s := fun w h hw => va_tabs h rfl (hts w hw)
  refine ⟨⟨f _ rfl (by decide +kernel), f _ rfl (by decide +kernel), f _ rfl (by decide +kernel), f _ rfl (by decide +kernel), f _ rfl (by decide +kernel)⟩, ?_, f _ rfl (by decide +kernel)⟩
  exact hts (.arrayOver (.array .int)) (by decide +kernel)
set_option maxRecDepth 20000 in
theorem start_X {args : Array Value} {s : State} {A : Nat → Prop} {G : va_G} {tys : List (ClassId × FieldType)} (hts : ∀ w ∈ lw_tbl, w.before args s = true) (hgv : (Jvm.Cond.and given_1 narrow_1).before args s = true) (hK : va_K G vwCl tys s) (hA : ∀ a : Nat, a < s.heap.size → ¬ A a) : gX A s s.heap := by
  have hs := flat_of_before _ hgv
  have hcur : s.vm.findClass RX2 = some (G.1 2) := (hK.1 2 _ rfl).2.1
  have S : ∀ (k : Nat) (tx : String), Cond.stringRef RX2 k tx ∈ lw_tbl → ∃ a, vk_R RX2 k tx a s := fun k tx h => by
    have h1 := hts _ h
    obtain ⟨_, _, _, a, -, -, -, -, -, ev⟩ := Cond.stringRef_spec hcur h1
    exact ⟨a, vk_R.of h1 ev⟩
  have hstr : ∀ q ∈ xStr, Cond.stringRef RX2 q.1 q.2 ∈ lw_tbl := by decide +kernel
  have hw : ∀ w ∈ xW, w ∈ lw_tbl := by decide +kernel
  exact ⟨fun q hq => S q.1 q.2 (hstr q hq), fun w h => xW_same h rfl (hts w (hw w h)), vx_Zqof (hts _ (by decide +kernel)) (hts _ (by decide +kernel)) (hs _ (by decide +kernel)) hA, vx_Zqof (hts _ (by decide +kernel)) (hts _ (by decide +kernel)) (hs _ (by decide +kernel)) hA, va_Nc.of (hs _ (by decide +kernel))⟩
theorem start_T {l : Launch} (h : l.flags = flags0) : l.stackTraces = false := by
  first
  | (rw [show l.stackTraces = (Launch.stackTraces { l with flags := flags0 }) from by rw [← h]]; decide +kernel)
  | (unfold Launch.stackTraces; rw [h]; decide +kernel)
