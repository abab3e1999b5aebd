theorem hit_t {q : Q4} {x : Int32} (h : whr q x = 1 ∨ whr q x = 2) : hit q x = true := decide_eq_true h
theorem hit_f {q : Q4} {x : Int32} (h : ¬ (whr q x = 1 ∨ whr q x = 2)) : hit q x = false := decide_eq_false h
theorem dist_0 {b : Nat} : dist b b = 0 := by unfold dist; omega
section
variable {c b : Nat} {q : Q4} {x : Int32} {P : List Int32} {a h p m : Int32} {K T : Nat → Int32}
theorem ask0 (w : whr q x = 0) : askS c x (q, P, b, a, h, p, m, K, T) = ((x :: (sNew c b q).1, (sNew c b q).2), sPl c P x, b, a + 1, h, p + nI (decide (x ∈ P)).toNat, m, upd K (ix x) (K (ix x) + 1), T) := by
  have e := serve0 (c := c) (b := b) w
  have hh : hit q x = false := hit_f (by omega)
  unfold askS
  simp only [e.1, e.2.1, hh, dist_0, Bool.toNat_false, nI_0, Int32.add_zero]
  rfl
theorem ask1 (w : whr q x = 1) : askS c x (q, P, b, a, h, p, m, K, T) = ((rmv q.1 x, x :: q.2.1, q.2.2), sPl c P x, b, a + 1, h + 1, p + nI (decide (x ∈ P)).toNat, m, upd K (ix x) (K (ix x) + 1), upd T (ix x) (T (ix x) + 1)) := by
  have e := serve1 (c := c) (b := b) w
  have hh : hit q x = true := hit_t (by omega)
  unfold askS
  simp only [e.1, e.2.1, hh, dist_0, Bool.toNat_true, nI_0, Int32.add_zero]
  rfl
theorem ask2 (w : whr q x = 2) : askS c x (q, P, b, a, h, p, m, K, T) = ((q.1, x :: rmv q.2.1 x, q.2.2), sPl c P x, b, a + 1, h + 1, p + nI (decide (x ∈ P)).toNat, m, upd K (ix x) (K (ix x) + 1), upd T (ix x) (T (ix x) + 1)) := by
  have e := serve2 (c := c) (b := b) w
  have hh : hit q x = true := hit_t (by omega)
  unfold askS
  simp only [e.1, e.2.1, hh, dist_0, Bool.toNat_true, nI_0, Int32.add_zero]
  rfl
theorem ask3 (w : whr q x = 3) : askS c x (q, P, b, a, h, p, m, K, T) = (((sRoom c (sBord c b q x) false q).1, x :: (sRoom c (sBord c b q x) false q).2.1, rmv (sRoom c (sBord c b q x) false q).2.2.1 x, (sRoom c (sBord c b q x) false q).2.2.2), sPl c P x, sBord c b q x, a + 1, h, p + nI (decide (x ∈ P)).toNat, m + nI (dist b (sBord c b q x)), upd K (ix x) (K (ix x) + 1), T) := by
  have e := serve3 (c := c) (b := b) w
  have hh : hit q x = false := hit_f (by omega)
  unfold askS
  simp only [e.2.1, hh, Bool.toNat_false, nI_0, Int32.add_zero]
  rfl
theorem ask4 (w : whr q x = 4) : askS c x (q, P, b, a, h, p, m, K, T) = (((sRoom c (sBord c b q x) true q).1, x :: (sRoom c (sBord c b q x) true q).2.1, (sRoom c (sBord c b q x) true q).2.2.1, rmv (sRoom c (sBord c b q x) true q).2.2.2 x), sPl c P x, sBord c b q x, a + 1, h, p + nI (decide (x ∈ P)).toNat, m + nI (dist b (sBord c b q x)), upd K (ix x) (K (ix x) + 1), T) := by
  have e := serve4 (c := c) (b := b) w
  have hh : hit q x = false := hit_f (by omega)
  unfold askS
  simp only [e.2.1, hh, Bool.toNat_false, nI_0, Int32.add_zero]
  rfl
end
theorem pl_in {c : Nat} {P : List Int32} {x : Int32} (h : x ∈ P) : x :: rmv P x = sPl c P x := by
  unfold sPl; rw [if_pos h]
theorem pl_full {c : Nat} {P : List Int32} {x : Int32} (h : x ∉ P) (h2 : c ≤ P.length) : x :: P.dropLast = sPl c P x := by
  unfold sPl; rw [if_neg h, if_pos h2]
theorem pl_new {c : Nat} {P : List Int32} {x : Int32} (h : x ∉ P) (h2 : ¬ c ≤ P.length) : x :: P = sPl c P x := by
  unfold sPl; rw [if_neg h, if_neg h2]
theorem tn_t {p : Prop} {d : Decidable p} (h : p) : nI 1 = nI (decide p).toNat := by rw [decide_eq_true h]; rfl
theorem tn_f {p : Prop} {d : Decidable p} (h : ¬ p) : nI 0 = nI (decide p).toNat := by rw [decide_eq_false h]; rfl
theorem tn_lt (b : Bool) : b.toNat < 2 := by cases b <;> decide
section
variable {p : Program} {l : Launch} {e : Env} {R : Room} {s : State} {m : MethodId} {args : Array Value} {below : List Frame} {meth : Method} {c : Code} {H : Heap} {locs : List Loc} {cells slots : Nat} {Q : State → Prop}
variable {cc : ByteArray} {pc : Nat} {ls : Array Slot} {rest : List Value}
/-- b ? 1 : 0 -/
theorem g_b01 (hexec : p.tables.exec = Jvm.exec) (hb : c.code = cc) {b : Nat} (hb2 : b < 2) {o1 o2 : Int} (d0 : decode cc pc = .ok (.ifCond .eq o1, 3)) (d1 : decode cc (pc + 3) = .ok (.iconst 1, 1)) (d2 : decode cc (pc + 4) = .ok (.goto o2, 3)) (d3 : decode cc (pc + 7) = .ok (.iconst 0, 1)) (h1 : (pc : Int) + o1 = ((pc + 7 : Nat) : Int)) (h2 : ((pc + 4 : Nat) : Int) + o2 = ((pc + 8 : Nat) : Int))
    (k : W p l e R s m args below meth c H locs cells slots Q (F0 m (pc + 8) ls (.int (nI b) :: rest))) : W p l e R s m args below meth c H locs cells slots Q (F0 m pc ls (.int (nI b) :: rest)) := by
  refine g_if_eq (tgt := pc + 7) hexec hb d0 h1 (by omega) (fun z => ?_) (fun z => ?_)
  · subst z
    exact lv_iconst (v := nI 0) hexec hb d3 (by decide +kernel) k
  · have e : b = 1 := by omega
    subst e
    exact lv_iconst (v := nI 1) hexec hb d1 (by decide +kernel) (lv_goto (tgt := pc + 8) hexec hb d2 h2 k)
end
theorem jar_in {j : Nat} (h : j < 30) : nI 0 ≤ nI j ∧ nI j ≤ nI 29 := ⟨(nI_leI (by decide) (by omega)).mpr (by omega), (nI_leI (by omega) (by decide)).mpr (by omega)⟩
theorem jar_of {x : Int32} (h : nI 0 ≤ x ∧ x ≤ nI 29) : ∃ j : Nat, j < 30 ∧ x = nI j := by
  have h0 : ¬ x < 0 := fun z => (Int32.not_lt.mpr h.1) z
  obtain ⟨j, h1, h2⟩ := nI_of2 (M := nI 29) (n := 29) (nI_toInt (by decide)) h0 h.2
  exact ⟨j, by omega, h2⟩
theorem in_nat {x : Int32} {a b : Nat} (hb : b < 2 ^ 31) (h : nI a ≤ x ∧ x ≤ nI b) (ha : a < 2 ^ 31) : ∃ j : Nat, a ≤ j ∧ j ≤ b ∧ x = nI j := by
  have h0 : ¬ x < 0 := fun z => by
    have h3 : (nI a).toInt ≤ x.toInt := Int32.le_iff_toInt_le.mp h.1
    have h4 : x.toInt < (0 : Int32).toInt := Int32.lt_iff_toInt_lt.mp z
    rw [nI_toInt ha] at h3
    have h5 : (0 : Int32).toInt = 0 := by decide
    omega
  obtain ⟨j, h1, h2⟩ := nI_of2 (M := nI b) (n := b) (nI_toInt hb) h0 h.2
  subst h2
  exact ⟨j, (nI_leI ha (by omega)).mp h.1, h1, rfl⟩
theorem nat_in {a b j : Nat} (ha : a ≤ j) (hb : j ≤ b) (h : b < 2 ^ 31) : nI a ≤ nI j ∧ nI j ≤ nI b := ⟨(nI_leI (by omega) (by omega)).mpr ha, (nI_leI (by omega) h).mpr hb⟩
section
variable {p : Program} {l : Launch} {e : Env} {R : Room} {s : State} {m : MethodId} {args : Array Value} {below : List Frame} {meth : Method} {c : Code} {H : Heap} {locs : List Loc} {cells slots : Nat} {Q : State → Prop} {g : JFrame}
theorem g_heap (k : ∀ (H1 : Heap) (locs1 : List Loc), H1 = H → locs1 = locs → W p l e R s m args below meth c H1 locs1 cells slots Q g) : W p l e R s m args below meth c H locs cells slots Q g := k _ _ rfl rfl
end
/-- a jar's place in its row; -1 if it is nowhere -/
def tplc (q : Q4) (x : Int32) : Int32 := if whr q x = 0 then -1 else if whr q x = 1 then pos q.1 x else if whr q x = 2 then pos q.2.1 x else if whr q x = 3 then pos q.2.2.1 x else pos q.2.2.2 x
theorem tplc0 {q : Q4} {x : Int32} (w : whr q x = 0) : tplc q x = -1 := by unfold tplc; rw [if_pos w]
theorem tplc1 {q : Q4} {x : Int32} (w : whr q x = 1) : tplc q x = pos q.1 x := by unfold tplc; rw [if_neg (by omega), if_pos w]
theorem tplc2 {q : Q4} {x : Int32} (w : whr q x = 2) : tplc q x = pos q.2.1 x := by unfold tplc; rw [if_neg (by omega), if_neg (by omega), if_pos w]
theorem tplc3 {q : Q4} {x : Int32} (w : whr q x = 3) : tplc q x = pos q.2.2.1 x := by unfold tplc; rw [if_neg (by omega), if_neg (by omega), if_neg (by omega), if_pos w]
theorem tplc4 {q : Q4} {x : Int32} (w : whr q x = 4) : tplc q x = pos q.2.2.2 x := by unfold tplc; rw [if_neg (by omega), if_neg (by omega), if_neg (by omega), if_neg (by omega)]
