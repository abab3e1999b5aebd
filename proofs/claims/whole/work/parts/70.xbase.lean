/-! what a method needs that throws by itself -/
def xStr : List (Nat × String) := [(56, "room is not 1 to 12"), (90, "the jar is not in the pantry"), (109, "the menu has 30 jars"), (116, "the menu has no such place"), (126, "what is not 0 to 4"), (131, "row is not 1 to 6"), (133, "the row has no such place"), (138, "what is not 0 to 11"), (185, "jar is not 0 to 29"), (187, "times is not 1 to 9")]
def xW : List Cond := [.castable "java/lang/IllegalArgumentException" "java/lang/IllegalArgumentException", .castable "java/lang/IndexOutOfBoundsException" "java/lang/IndexOutOfBoundsException", .castable "java/lang/IllegalStateException" "java/lang/IllegalStateException", .declares (Bundle.initS "java/lang/RuntimeException"), .declares (Bundle.initS "java/lang/Exception"), .declares (Bundle.initS Bundle.tN)]
theorem xW_cases {w : Cond} (hw : w ∈ xW) : (∃ E, w = .castable E E) ∨ ∃ y, w = .declares y := by
  simp only [xW, List.mem_cons, List.not_mem_nil, or_false] at hw
  rcases hw with rfl | rfl | rfl | rfl | rfl | rfl
  · exact Or.inl ⟨_, rfl⟩
  · exact Or.inl ⟨_, rfl⟩
  · exact Or.inl ⟨_, rfl⟩
  · exact Or.inr ⟨_, rfl⟩
  · exact Or.inr ⟨_, rfl⟩
  · exact Or.inr ⟨_, rfl⟩
theorem xW_warm {s U : State} {w : Cond} (hw : w ∈ xW) (hW : s.WarmedH U.vm) (h : va_Nw w s) : va_Nw w U := by
  rcases xW_cases hw with ⟨E, rfl⟩ | ⟨y, rfl⟩
  · exact va_Nw.warmC hW h
  · exact va_tabs rfl (rfl : (s.setVm U.vm).vm = U.vm) (by rw [Cond.declares_setVm hW.alike]; exact h)
theorem xW_same {u U : State} {w : Cond} {a b : Array Value} (hw : w ∈ xW) (e : u.vm = U.vm) (h : w.before a u = true) : w.before b U = true := by
  rcases xW_cases hw with ⟨E, rfl⟩ | ⟨y, rfl⟩
  · exact va_tabs rfl e h
  · exact va_tabs rfl e h
abbrev xNm : List String := ["java/lang/RuntimeException", "java/lang/Exception"]
def gX (A : Nat → Prop) (U : State) (H : Heap) : Prop := (∀ q ∈ xStr, ∃ a, vk_R RX2 q.1 q.2 a U) ∧ (∀ w ∈ xW, va_Nw w U) ∧ vx_Zq Bundle.tN "UNASSIGNED_STACK" Bundle.steD A U H ∧ vx_Zq Bundle.tN "SUPPRESSED_SENTINEL" Bundle.listD A U H ∧ va_Nc "java/lang/IllegalStateException" "java/lang/IndexOutOfBoundsException" U
theorem gX.into {A A' : Nat → Prop} {s U : State} {H : Heap} {locs : List Loc} (h : gX A s s.heap) (hS : va_S A s.heap H locs) (hA : ∀ q, A' q → A q) (hW : s.WarmedH U.vm) : gX A' U H :=
  ⟨fun q hq => (h.1 q hq).imp (fun _ z => vk_R.warm hW z), fun w hw => xW_warm hw hW (h.2.1 w hw), vx_Zq.moved hW.alike ((h.2.2.1.kept hS.2.1).narrow hA), vx_Zq.moved hW.alike ((h.2.2.2.1.kept hS.2.1).narrow hA), va_Nc.moved hW.alike h.2.2.2.2⟩
theorem gX.same {A : Nat → Prop} {u U : State} {H : Heap} (e : U.vm = u.vm) (h : gX A u H) : gX A U H :=
  ⟨fun q hq => (h.1 q hq).imp (fun _ z => vk_R.same e z), fun w hw => xW_same hw e.symm (h.2.1 w hw), vx_Zq.moved (by rw [e]; exact Vm.Alike.refl _) h.2.2.1, vx_Zq.moved (by rw [e]; exact Vm.Alike.refl _) h.2.2.2.1, va_Nc.moved (by rw [e]; exact Vm.Alike.refl _) h.2.2.2.2⟩
section
variable {tys : List (ClassId × FieldType)} {ws : va_W} {H : Heap} {s : State} {a : Nat}
def gpreX (G : va_G) (tys : List (ClassId × FieldType)) (ws : va_W) (sz : Nat) : State → Prop := fun U => gX (va_A ws sz) U U.heap ∧ gN U ∧ U.heap.size = sz ∧ va_P G vwCl ws U.heap ∧ va_K G vwCl tys U ∧ va_D (fun _ => True) ws
theorem gpreX_blind {av : List Value} {G : va_G} {sz : Nat} : FrameBlind (va_Pc av (gpreX G tys ws sz)) := fun a U g mk q => ⟨q.1, gX.same (u := U) rfl q.2.1, gN.same rfl q.2.2.1, q.2.2.2.1, q.2.2.2.2.1, va_K.moved (u := U) (U := U.calling g mk a) (Vm.Alike.refl U.vm) q.2.2.2.2.2.1, q.2.2.2.2.2.2⟩
theorem g_preVX {G : va_G} {A A0 : Nat → Prop} {fs As : List Value} {ci : Nat} {q : vw_C} {locs : List Loc} (hP : va_P G vwCl ws H) (hK : va_K G vwCl tys s) (hD : va_D A0 ws) (q0 : Nat) (he : ws[q0]? = some (a, .inr (ci, fs))) (hc : vwCl[ci]? = some q) (hN : gN s) (hX : gX A s s.heap) (hS : va_S A s.heap H locs) (hA : ∀ q, va_A ws H.size q → A q) : PreV s H q.1 a (va_Pc (.ref a :: As) (gpreX G tys ws H.size)) As :=
  ⟨gpreX_blind, va_recv hK hP hc he, fun U hU hW => ⟨rfl, by rw [hU]; exact hX.into hS hA hW, gN.warm hW hN, by rw [hU], by rw [hU]; exact hP, va_K.moved hW.alike hK, hD.weaken (fun _ _ _ _ => trivial)⟩⟩
theorem g_preSX {G : va_G} {A A0 : Nat → Prop} {As : List Value} {locs : List Loc} (hP : va_P G vwCl ws H) (hK : va_K G vwCl tys s) (hD : va_D A0 ws) (hN : gN s) (hX : gX A s s.heap) (hS : va_S A s.heap H locs) (hA : ∀ q, va_A ws H.size q → A q) : PreS s H (va_Pc As (gpreX G tys ws H.size)) As :=
  ⟨gpreX_blind, fun U hU hW => ⟨rfl, by rw [hU]; exact hX.into hS hA hW, gN.warm hW hN, by rw [hU], by rw [hU]; exact hP, va_K.moved hW.alike hK, hD.weaken (fun _ _ _ _ => trivial)⟩⟩
end
/-- what stands behind such a throw: all as it was -/
abbrev gXC (G : va_G) (tys : List (ClassId × FieldType)) (ws : va_W) (E : String) (A : Nat → Prop) : String → State → State → Prop := vx_X (fun (_ : Unit) => True) (fun E' _ t => E' = E ∧ gat G tys A ws t) A
section
variable {p : Program} {l : Launch} {e : Env} {R : Room} {s : State} {m : MethodId} {args : Array Value} {below : List Frame} {meth : Method} {c : Code} {H : Heap} {locs : List Loc} {cells slots : Nat} {Q : State → Prop}
variable {cc : ByteArray} {pc : Nat} {ls : Array Slot} {rest : List Value} {G : va_G} {A : Nat → Prop} {a : Nat} {tys : List (ClassId × FieldType)} {ws : va_W} {Qc : Array Value → State → Outcome → State → Prop}
theorem g_throw {E text : String} {ik is ic mc ms : Nat} (hexec : p.tables.exec = Jvm.exec) (hb : c.code = cc) (hst : l.stackTraces = false) (hown : s.vm.findClass RX2 = some m.cls) (hfit : Bundle.fit E = true) (hq : (is, text) ∈ xStr) (hX : gX A s s.heap) (hN : gN s)
    (hk : (Cond.classLink RX2 ik E).before args s = true) (hini : (Cond.initialized E).before args s = true) (h1 : ∀ w ∈ (vx_atS RX2 ic E xNm).filter goodWord, w.before args s = true) (h2 : ∀ w ∈ (vx_atS RX2 ic E xNm).filter (fun w => !goodWord w), w ∈ xW)
    (hgood : ∀ w ∈ Cond.classLink RX2 ik E :: Cond.initialized E :: vx_atS RX2 ic E xNm, vx_ot w = true)
    (hP : va_P G vwCl ws H) (hK : va_K G vwCl tys s) (hD : va_D A ws) (hS : va_S A s.heap H locs) (hsize : ls.size = c.maxLocals)
    (d0 : decode cc pc = .ok (.new ik, 3)) (d3 : decode cc (pc + 3) = .ok (.dup, 1)) (d4 : decode cc (pc + 4) = .ok (.ldc is, 2)) (d6 : decode cc (pc + 6) = .ok (.invokespecial ic, 3)) (d9 : decode cc (pc + 9) = .ok (.athrow, 1))
    (hout : ∀ x ∈ c.exceptionTable.toList, False) (hRf : 5 < R.frames) (hRl : (rest.map fun v => v.category).sum + 82 ≤ R.locals) (hRc : cells + 1 ≤ R.cells) (hRs : slots + 6 ≤ R.slots) (hlocks : meth.locks = false) (hc : cells + 1 ≤ mc) (hs : slots + 6 ≤ ms) :
    W p l e R s m args below meth c H locs cells slots (vx_MQ below Qc (gXC G tys ws E A) args s mc ms A) (F0 m pc ls rest) := by
  obtain ⟨sa, hsa⟩ := hX.1 _ hq
  refine vx_throwS (names := xNm) hexec hb hst hown hfit (by decide +kernel) hk hini hsa (vx_hat h1 h2 (fun w hw => xW_same hw rfl (hX.2.1 w hw))) hgood hX.2.2.1 hX.2.2.2.1 hS hsize d0 d3 d4 d6 d9 (fun x hx9 => (hout x hx9).elim) hRf hRl hRc hRs hlocks (fun t hvm hz hkp => ⟨(), trivial, ⟨rfl, hP.kept (fun k x hx => hkp x.1 ((hP k x hx).lt)), va_K.moved hvm hK, hD⟩, Nat.le_trans hS.1 hz, fun q h1 h2 => (hkp q (Nat.lt_of_lt_of_le h1 hS.1)).trans (hS.2.1 q h1 h2)⟩) hS.2.2 hc hs
/-- a call that throws, and what it throws goes on -/
theorem g_pass {E E9 : String} {ce : Cell} {q9 mc ms : Nat} {pc : Nat} {H1 : Heap} {locs1 : List Loc} (hout : ∀ x ∈ c.exceptionTable.toList, False) (hlocks : meth.locks = false) (hcell : H1[q9]? = some ce) (hv : ce.vm = .none) (hcl : s.vm.findClass E9 = some ce.cls) (hE : E9 = E)
    (hP : va_P G vwCl ws H1) (hK : va_K G vwCl tys s) (hD : va_D A ws) (hS : va_S A s.heap H1 locs1) (hc : cells ≤ mc) (hs : slots ≤ ms) : vx_W p l e R s m args below meth c H1 locs1 cells slots (vx_MQ below Qc (gXC G tys ws E A) args s mc ms A) (F0 m pc ls rest) q9 :=
  vx_out (fun x hx9 => (hout x hx9).elim) hlocks hcell hv hcl (fun t ht hvm => ⟨(), trivial, ⟨hE, by rw [ht]; exact hP, va_K.moved hvm hK, hD⟩, hS.F ht⟩) hS.2.2 hc hs
end
