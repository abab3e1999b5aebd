/-! new int[7][31] -/
theorem g_outer (c : ClassId) (N h0 : Nat) : ∀ i : Nat, Jvm.Free.Multi.outerC c N h0 i = arrV c N (fun j => va_rf (if j < i then some (h0 + 1 + j) else none))
  | 0 => by
    show ({ cls := c, slots := Array.replicate N .null, vm := .none } : Cell) = _
    rw [arrV_new]
    refine congrArg (arrV c N) (funext fun j => ?_)
    simp [va_rf]
  | i + 1 => by
    show (Jvm.Free.Multi.outerC c N h0 i).setSlot i (.ref (h0 + 1 + i)) = _
    rw [g_outer c N h0 i, arrV_store]
    refine congrArg (arrV c N) (funext fun j => ?_)
    by_cases e : j = i
    · subst e
      simp [updV, va_rf]
    · by_cases h : j < i
      · simp [updV, e, h, Nat.lt_succ_of_lt h]
      · simp [updV, e, h, show ¬ j < i + 1 by omega]
theorem g_inner (c : ClassId) : Jvm.Free.Multi.innerC c 31 (defaultValue .int) = vp_cell c (31, .inl (fun _ => 0)) := by
  show ({ cls := c, slots := Array.replicate 31 (.int 0), vm := .none } : Cell) = _
  rw [arrV_new]
  rfl
theorem RW7 {h : Nat} : (fun i => if i < 7 then some (h + 1 + i) else none) = RW [h + 1 + 0, h + 1 + 1, h + 1 + 2, h + 1 + 3, h + 1 + 4, h + 1 + 5, h + 1 + 6] := by
  funext i
  rcases Nat.lt_or_ge i 7 with z | z
  · rcases (show i = 0 ∨ i = 1 ∨ i = 2 ∨ i = 3 ∨ i = 4 ∨ i = 5 ∨ i = 6 by omega) with rfl | rfl | rfl | rfl | rfl | rfl | rfl <;> rfl
  · rw [RW, List.getElem?_eq_none (by simpa using z), if_neg (by omega)]
def mnaW (cI cR : ClassId) (q0 q1 q2 q3 q4 q5 q6 q7 : Nat) : va_W := [(q0, .inl (cR, 7, .inr (.inr (.inr (.inr (RW [q1, q2, q3, q4, q5, q6, q7])))))), (q1, .inl (cI, 31, .inl (fun _ => 0))), (q2, .inl (cI, 31, .inl (fun _ => 0))), (q3, .inl (cI, 31, .inl (fun _ => 0))), (q4, .inl (cI, 31, .inl (fun _ => 0))), (q5, .inl (cI, 31, .inl (fun _ => 0))), (q6, .inl (cI, 31, .inl (fun _ => 0))), (q7, .inl (cI, 31, .inl (fun _ => 0)))]
theorem mna_cases {cI cR : ClassId} {q0 q1 q2 q3 q4 q5 q6 q7 : Nat} {k : Nat} {x : Nat × va_E} (h : (mnaW cI cR q0 q1 q2 q3 q4 q5 q6 q7)[k]? = some x) : (k = 0 ∧ x = (q0, .inl (cR, 7, .inr (.inr (.inr (.inr (RW [q1, q2, q3, q4, q5, q6, q7]))))))) ∨ (k = 1 ∧ x = (q1, .inl (cI, 31, .inl (fun _ => 0)))) ∨ (k = 2 ∧ x = (q2, .inl (cI, 31, .inl (fun _ => 0)))) ∨ (k = 3 ∧ x = (q3, .inl (cI, 31, .inl (fun _ => 0)))) ∨ (k = 4 ∧ x = (q4, .inl (cI, 31, .inl (fun _ => 0)))) ∨ (k = 5 ∧ x = (q5, .inl (cI, 31, .inl (fun _ => 0)))) ∨ (k = 6 ∧ x = (q6, .inl (cI, 31, .inl (fun _ => 0)))) ∨ (k = 7 ∧ x = (q7, .inl (cI, 31, .inl (fun _ => 0)))) := by
  have hk : k < 8 := (List.getElem?_eq_some_iff.mp h).1
  rcases (show k = 0 ∨ k = 1 ∨ k = 2 ∨ k = 3 ∨ k = 4 ∨ k = 5 ∨ k = 6 ∨ k = 7 by omega) with rfl | rfl | rfl | rfl | rfl | rfl | rfl | rfl <;> cases h
  · exact Or.inl ⟨rfl, rfl⟩
  · exact Or.inr (Or.inl ⟨rfl, rfl⟩)
  · exact Or.inr (Or.inr (Or.inl ⟨rfl, rfl⟩))
  · exact Or.inr (Or.inr (Or.inr (Or.inl ⟨rfl, rfl⟩)))
  · exact Or.inr (Or.inr (Or.inr (Or.inr (Or.inl ⟨rfl, rfl⟩))))
  · exact Or.inr (Or.inr (Or.inr (Or.inr (Or.inr (Or.inl ⟨rfl, rfl⟩)))))
  · exact Or.inr (Or.inr (Or.inr (Or.inr (Or.inr (Or.inr (Or.inl ⟨rfl, rfl⟩))))))
  · exact Or.inr (Or.inr (Or.inr (Or.inr (Or.inr (Or.inr (Or.inr ⟨rfl, rfl⟩))))))
section
variable {p : Program} {l : Launch} {e : Env} {R : Room} {s : State} {m : MethodId} {args : Array Value} {below : List Frame} {meth : Method} {c : Code} {H : Heap} {locs : List Loc} {cells slots : Nat} {Q : State → Prop}
variable {cc : ByteArray} {pc : Nat} {ls : Array Slot} {rest : List Value} {D : va_G} {cl : List vw_C} {A : Nat → Prop} {tys : List (ClassId × FieldType)} {ws : va_W} {H0 : Heap}
theorem g_mna (hexec : p.tables.exec = Jvm.exec) (hb : c.code = cc) {own : String} {index : Nat} (hown : s.vm.findClass own = some m.cls) (hclink : (Cond.classLink own index "[[I").before args s = true) (hao : gAO s) (harr : (Cond.arrayClass .int).before args s = true) (hK : va_K D cl tys s) (hP : va_P D cl ws H) (hD : va_D A ws) (hS : va_S A H0 H locs) (hA : ∀ q, H0.size ≤ q → A q) (t0 t1 : Nat) {cI cR : ClassId} (ht0 : tys[t0]? = some (cI, .int)) (ht1 : tys[t1]? = some (cR, .array .int)) (hcells : cells + (1 + 7) ≤ R.cells) (hslots : slots + (7 + 7 * 31) ≤ R.slots) (hdg : decode cc pc = .ok (.multianewarray index 2, 4))
    (kk : ∀ (q0 q1 q2 q3 q4 q5 q6 q7 : Nat) (H1 : Heap), va_P D cl (ws ++ mnaW cI cR q0 q1 q2 q3 q4 q5 q6 q7) H1 → va_D A (ws ++ mnaW cI cR q0 q1 q2 q3 q4 q5 q6 q7) → va_S A H0 H1 locs → W p l e R s m args below meth c H1 locs (cells + 1 + 7) (slots + 7 + 7 * 31) Q (F0 m (pc + 4) ls (.ref q0 :: rest))) : W p l e R s m args below meth c H locs cells slots Q (F0 m pc ls (.int (nI 31) :: .int (nI 7) :: rest)) := by
  have n7 : (nI 7).toNatClampNeg = 7 := nI_clamp (by decide)
  have n31 : (nI 31).toNatClampNeg = 31 := nI_clamp (by decide)
  have e1 : s.vm.findClass "[I" = some cI := va_nm_int (hK.2 t0 _ ht0).2
  have e2 : s.vm.findClass (FieldType.array .int).toString = some cI := by
    have z : (FieldType.array .int).toString = "[I" := by decide +kernel
    rw [z]; exact e1
  have e3 : s.vm.findClass ("[" ++ (FieldType.array .int).toString) = some cR := (hK.2 t1 _ ht1).2
  have zl : "[" ++ (FieldType.array .int).toString = "[[I" := by decide +kernel
  intro T hT Xs
  obtain ⟨vm₁, cA, cC, -, fA, fC, -, -, X', step⟩ := Xs.multianewarray2F hexec (ty := .int) hown (by rw [zl]; exact hclink) (gAO.use hao) harr (g := F0 m pc ls (.int (nI 31) :: .int (nI 7) :: rest)) rfl (by rw [hb]; exact hdg) rfl (nI_pos (by decide)) (nI_pos (by decide)) (by rw [n7]; decide) (by rw [n31]; decide) (by rw [n31]; decide) rfl rfl (by rw [n7]; exact hcells) (by rw [n7, n31]; exact hslots)
  have ea : cA = cR := Option.some.inj (fA.symm.trans e3)
  have eb : cC = cI := Option.some.inj (fC.symm.trans e2)
  rw [ea, eb] at X' step
  rw [n7, n31] at X' step
  generalize hF : Jvm.Free.Multi.fill (T.setVm vm₁) cR cI 7 31 (defaultValue .int) 7 = F at X' step
  have hTh : (T.setVm vm₁).heap = H := hT
  obtain ⟨f1, f2, -, -⟩ := Jvm.Free.Multi.fill_facts (T.setVm vm₁) cR cI 7 31 (defaultValue .int) 7
  rw [hF, hTh] at f1 f2
  have hold : ∀ x : Nat, x < H.size → F.heap[x]? = H[x]? := fun x hx => by
    have := Jvm.Free.Multi.fill_old (T.setVm vm₁) cR cI 7 31 (defaultValue .int) (a := x) (by rw [hTh]; exact hx) 7
    rw [hF, hTh] at this
    exact this
  have hrow : ∀ j : Nat, j < 7 → F.heap[H.size + 1 + j]? = some (vp_cell cI (31, .inl (fun _ => 0))) := fun j hj => by
    have := Jvm.Free.Multi.fill_inner (T.setVm vm₁) cR cI 7 31 (defaultValue .int) 7 j hj
    rw [hF, hTh, g_inner] at this
    exact this
  have hout : Jvm.Free.Multi.outerC cR 7 H.size 7 = vp_cell cR (7, .inr (.inr (.inr (.inr (RW [H.size + 1 + 0, H.size + 1 + 1, H.size + 1 + 2, H.size + 1 + 3, H.size + 1 + 4, H.size + 1 + 5, H.size + 1 + 6]))))) := by
    rw [vp_cell_q, g_outer cR 7 H.size 7, ← RW7]
  rw [hout] at f2
  have hP0 : va_P D cl ws F.heap := hP.kept (fun k9 x hx => hold x.1 ((hP k9 x hx).lt))
  have hP1 : va_P D cl (ws ++ mnaW cI cR H.size (H.size + 1 + 0) (H.size + 1 + 1) (H.size + 1 + 2) (H.size + 1 + 3) (H.size + 1 + 4) (H.size + 1 + 5) (H.size + 1 + 6)) F.heap := hP0.app (fun k9 x hx => by
    rcases mna_cases hx with ⟨-, rfl⟩ | ⟨-, rfl⟩ | ⟨-, rfl⟩ | ⟨-, rfl⟩ | ⟨-, rfl⟩ | ⟨-, rfl⟩ | ⟨-, rfl⟩ | ⟨-, rfl⟩
    · exact f2
    · exact hrow 0 (by decide)
    · exact hrow 1 (by decide)
    · exact hrow 2 (by decide)
    · exact hrow 3 (by decide)
    · exact hrow 4 (by decide)
    · exact hrow 5 (by decide)
    · exact hrow 6 (by decide))
  have hr : ∀ (k9 : Nat) (x : Nat × va_E), (mnaW cI cR H.size (H.size + 1 + 0) (H.size + 1 + 1) (H.size + 1 + 2) (H.size + 1 + 3) (H.size + 1 + 4) (H.size + 1 + 5) (H.size + 1 + 6))[k9]? = some x → x.1 = H.size + k9 := fun k9 x hx => by
    rcases mna_cases hx with ⟨rfl, rfl⟩ | ⟨rfl, rfl⟩ | ⟨rfl, rfl⟩ | ⟨rfl, rfl⟩ | ⟨rfl, rfl⟩ | ⟨rfl, rfl⟩ | ⟨rfl, rfl⟩ | ⟨rfl, rfl⟩ <;> first | rfl | (show _ + _ = _; omega) | (show _ = _ + _; omega)
  have hle : ∀ (k9 : Nat) (x : Nat × va_E), ws[k9]? = some x → x.1 < H.size := fun k9 x hx => (hP k9 x hx).lt
  have hD1 : va_D A (ws ++ mnaW cI cR H.size (H.size + 1 + 0) (H.size + 1 + 1) (H.size + 1 + 2) (H.size + 1 + 3) (H.size + 1 + 4) (H.size + 1 + 5) (H.size + 1 + 6)) := by
    refine ⟨fun i j x y hi hj hxy => ?_, fun k9 x hx => ?_⟩
    · by_cases h1 : i < ws.length <;> by_cases h2 : j < ws.length
      · rw [List.getElem?_append_left h1] at hi
        rw [List.getElem?_append_left h2] at hj
        exact hD.1 i j x y hi hj hxy
      · rw [List.getElem?_append_left h1] at hi
        rw [List.getElem?_append_right (by omega)] at hj
        have := hle _ _ hi
        have := hr _ _ hj
        omega
      · rw [List.getElem?_append_right (by omega)] at hi
        rw [List.getElem?_append_left h2] at hj
        have := hle _ _ hj
        have := hr _ _ hi
        omega
      · rw [List.getElem?_append_right (by omega)] at hi hj
        have := hr _ _ hi
        have := hr _ _ hj
        omega
    · by_cases h1 : k9 < ws.length
      · rw [List.getElem?_append_left h1] at hx
        exact hD.2 k9 x hx
      · rw [List.getElem?_append_right (by omega)] at hx
        have := hr _ _ hx
        exact hA _ (by have := hS.1; omega)
  obtain ⟨t, a1, b1⟩ := kk H.size _ _ _ _ _ _ _ F.heap hP1 hD1 ⟨by rw [f1]; have := hS.1; omega, fun x h1 h2 => (hold x (Nat.lt_of_lt_of_le h1 hS.1)).trans (hS.2.1 x h1 h2), hS.2.2⟩ F rfl X'
  refine ⟨t, step t ?_, b1⟩
  have e9 : T.heap.size = H.size := by rw [hT]
  rw [e9]
  exact a1
end
