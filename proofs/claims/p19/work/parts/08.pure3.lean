/-! a pantry: the shelves, the plain row, the border, how often asked, there, plainly there, by how much the border moved, each jar's two counts -/
abbrev St : Type := Q4 × List Int32 × Nat × Int32 × Int32 × Int32 × Int32 × (Nat → Int32) × (Nat → Int32)
def ix (x : Int32) : Nat := x.toNatClampNeg
theorem ix_nI {n : Nat} (h : n < 30) : ix (nI n) = n := nI_clamp (by omega)
def hit (q : Q4) (x : Int32) : Bool := decide (whr q x = 1 ∨ whr q x = 2)
def dist (a b : Nat) : Nat := (b - a) + (a - b)
def askS (c : Nat) (x : Int32) (s : St) : St :=
  (sServe c s.2.2.1 s.1 x, sPl c s.2.1 x, sBord c s.2.2.1 s.1 x, s.2.2.2.1 + 1, s.2.2.2.2.1 + nI (hit s.1 x).toNat, s.2.2.2.2.2.1 + nI (decide (x ∈ s.2.1)).toNat, s.2.2.2.2.2.2.1 + nI (dist s.2.2.1 (sBord c s.2.2.1 s.1 x)), upd s.2.2.2.2.2.2.2.1 (ix x) (s.2.2.2.2.2.2.2.1 (ix x) + 1), if hit s.1 x then upd s.2.2.2.2.2.2.2.2 (ix x) (s.2.2.2.2.2.2.2.2 (ix x) + 1) else s.2.2.2.2.2.2.2.2)
def StOk (c : Nat) (s : St) : Prop := Num c s.2.2.1 s.1 ∧ Jrs s.1 ∧ s.2.1.length ≤ c ∧ allOk s.2.1
theorem ask_ok {c : Nat} {x : Int32} {s : St} (h : StOk c s) (hx : jarOk x) : StOk c (askS c x s) := by
  obtain ⟨h1, h2, h3, h4⟩ := h
  obtain ⟨a1, a2⟩ := serve_ok h1 h2 hx
  obtain ⟨a3, a4⟩ := pl_ok h1.1 h3 h4 hx
  exact ⟨a1, a2, a3, a4⟩
/-- a row of jars asked for, one behind the other; and how many were there -/
def foldS (c : Nat) (l : List Int32) (s : St) : St := l.foldl (fun s x => askS c x s) s
theorem foldS_nil {c : Nat} {s : St} : foldS c [] s = s := rfl
theorem foldS_snoc {c : Nat} {l : List Int32} {x : Int32} {s : St} : foldS c (l ++ [x]) s = askS c x (foldS c l s) := by
  unfold foldS
  rw [List.foldl_append]
  rfl
theorem foldS_app {c : Nat} {l k : List Int32} {s : St} : foldS c (l ++ k) s = foldS c k (foldS c l s) := by
  unfold foldS
  rw [List.foldl_append]
theorem foldS_ok {c : Nat} : ∀ {l : List Int32} {s : St}, allOk l → StOk c s → StOk c (foldS c l s)
  | [], _, _, h => h
  | x :: l, s, hl, h => foldS_ok (l := l) (s := askS c x s) (fun y hy => hl y (List.mem_cons_of_mem _ hy)) (ask_ok h (hl x List.mem_cons_self))
/-- the shelves alone -/
abbrev Sh : Type := Q4 × Nat × Nat
def stepQ (c : Nat) (t : Sh) (x : Int32) : Sh := (sServe c t.2.1 t.1 x, sBord c t.2.1 t.1 x, t.2.2 + (hit t.1 x).toNat)
def foldQ (c : Nat) (l : List Int32) (t : Sh) : Sh := l.foldl (stepQ c) t
theorem foldQ_snoc {c : Nat} {l : List Int32} {x : Int32} {t : Sh} : foldQ c (l ++ [x]) t = stepQ c (foldQ c l t) x := by
  unfold foldQ
  rw [List.foldl_append]
  rfl
/-- the plain row alone -/
abbrev Pl : Type := List Int32 × Nat
def stepP (c : Nat) (t : Pl) (x : Int32) : Pl := (sPl c t.1 x, t.2 + (decide (x ∈ t.1)).toNat)
def foldP (c : Nat) (l : List Int32) (t : Pl) : Pl := l.foldl (stepP c) t
theorem foldP_snoc {c : Nat} {l : List Int32} {x : Int32} {t : Pl} : foldP c (l ++ [x]) t = stepP c (foldP c l t) x := by
  unfold foldP
  rw [List.foldl_append]
  rfl
theorem fold_both {c : Nat} {s0 : St} : ∀ (l : List Int32) (s : St) (t : Sh) (u : Pl), s.1 = t.1 → s.2.2.1 = t.2.1 → s.2.1 = u.1 → s.2.2.2.2.1 = s0.2.2.2.2.1 + nI t.2.2 → s.2.2.2.2.2.1 = s0.2.2.2.2.2.1 + nI u.2 →
    (foldS c l s).1 = (foldQ c l t).1 ∧ (foldS c l s).2.2.1 = (foldQ c l t).2.1 ∧ (foldS c l s).2.1 = (foldP c l u).1 ∧ (foldS c l s).2.2.2.2.1 = s0.2.2.2.2.1 + nI (foldQ c l t).2.2 ∧ (foldS c l s).2.2.2.2.2.1 = s0.2.2.2.2.2.1 + nI (foldP c l u).2
  | [], s, t, u, h1, h2, h3, h4, h5 => ⟨h1, h2, h3, h4, h5⟩
  | x :: l, s, t, u, h1, h2, h3, h4, h5 => by
    refine fold_both l (askS c x s) (stepQ c t x) (stepP c u x) ?_ ?_ ?_ ?_ ?_
    · show sServe c s.2.2.1 s.1 x = sServe c t.2.1 t.1 x
      rw [h1, h2]
    · show sBord c s.2.2.1 s.1 x = sBord c t.2.1 t.1 x
      rw [h1, h2]
    · show sPl c s.2.1 x = sPl c u.1 x
      rw [h3]
    · show s.2.2.2.2.1 + nI (hit s.1 x).toNat = s0.2.2.2.2.1 + nI (t.2.2 + (hit t.1 x).toNat)
      rw [h4, h1, ← nI_add, Int32.add_assoc]
    · show s.2.2.2.2.2.1 + nI (decide (x ∈ s.2.1)).toNat = s0.2.2.2.2.2.1 + nI (u.2 + (decide (x ∈ u.1)).toNat)
      rw [h5, h3, ← nI_add, Int32.add_assoc]
theorem fold_q (c : Nat) (l : List Int32) (s : St) : (foldS c l s).1 = (foldQ c l (s.1, s.2.2.1, 0)).1 ∧ (foldS c l s).2.2.1 = (foldQ c l (s.1, s.2.2.1, 0)).2.1 ∧ (foldS c l s).2.1 = (foldP c l (s.2.1, 0)).1 ∧ (foldS c l s).2.2.2.2.1 = s.2.2.2.2.1 + nI (foldQ c l (s.1, s.2.2.1, 0)).2.2 ∧ (foldS c l s).2.2.2.2.2.1 = s.2.2.2.2.2.1 + nI (foldP c l (s.2.1, 0)).2 :=
  fold_both (s0 := s) l s (s.1, s.2.2.1, 0) (s.2.1, 0) rfl rfl rfl (by show _ = _ + nI 0; rw [nI_0, Int32.add_zero]) (by show _ = _ + nI 0; rw [nI_0, Int32.add_zero])
theorem foldQ_ok {c : Nat} : ∀ {l : List Int32} {t : Sh}, allOk l → Num c t.2.1 t.1 → Jrs t.1 → Num c (foldQ c l t).2.1 (foldQ c l t).1 ∧ Jrs (foldQ c l t).1
  | [], _, _, h1, h2 => ⟨h1, h2⟩
  | x :: l, t, hl, h1, h2 => by
    obtain ⟨a1, a2⟩ := serve_ok h1 h2 (hl x List.mem_cons_self)
    exact foldQ_ok (l := l) (t := stepQ c t x) (fun y hy => hl y (List.mem_cons_of_mem _ hy)) a1 a2
theorem foldP_ok {c : Nat} (h1 : 1 ≤ c) : ∀ {l : List Int32} {t : Pl}, allOk l → t.1.length ≤ c → allOk t.1 → (foldP c l t).1.length ≤ c ∧ allOk (foldP c l t).1
  | [], _, _, a, b => ⟨a, b⟩
  | x :: l, t, hl, a, b => by
    obtain ⟨a1, a2⟩ := pl_ok h1 a b (hl x List.mem_cons_self)
    exact foldP_ok h1 (l := l) (t := stepP c t x) (fun y hy => hl y (List.mem_cons_of_mem _ hy)) a1 a2
theorem foldQ_cnt {c : Nat} : ∀ {l : List Int32} {t : Sh}, (foldQ c l t).2.2 ≤ t.2.2 + l.length
  | [], _ => Nat.le_refl _
  | x :: l, t => by
    have h := foldQ_cnt (c := c) (l := l) (t := stepQ c t x)
    have h2 : (stepQ c t x).2.2 ≤ t.2.2 + 1 := by
      show t.2.2 + (hit t.1 x).toNat ≤ _
      cases hit t.1 x <;> simp
    show (foldQ c l (stepQ c t x)).2.2 ≤ _
    rw [List.length_cons]
    omega
theorem foldP_cnt {c : Nat} : ∀ {l : List Int32} {t : Pl}, (foldP c l t).2 ≤ t.2 + l.length
  | [], _ => Nat.le_refl _
  | x :: l, t => by
    have h := foldP_cnt (c := c) (l := l) (t := stepP c t x)
    have h2 : (stepP c t x).2 ≤ t.2 + 1 := by
      show t.2 + (decide (x ∈ t.1)).toNat ≤ _
      cases decide (x ∈ t.1) <;> simp
    show (foldP c l (stepP c t x)).2 ≤ _
    rw [List.length_cons]
    omega
/-- the menu, so often -/
def rep (t : Nat) (M : List Int32) : List Int32 := (List.replicate t M).flatten
theorem rep_0 {M : List Int32} : rep 0 M = [] := rfl
theorem rep_1 {M : List Int32} : rep 1 M = M := by simp [rep, List.replicate]
theorem rep_succ {t : Nat} {M : List Int32} : rep (t + 1) M = rep t M ++ M := by
  unfold rep
  rw [List.replicate_succ', List.flatten_append]
  simp
theorem rep_ok {t : Nat} {M : List Int32} (h : allOk M) : allOk (rep t M) := by
  intro x hx
  obtain ⟨l, h1, h2⟩ := List.mem_flatten.mp hx
  rw [List.eq_of_mem_replicate h1] at h2
  exact h x h2
theorem rep_len {t : Nat} {M : List Int32} : (rep t M).length = t * M.length := by
  unfold rep
  simp [List.length_flatten, List.map_replicate, List.sum_replicate_nat]
theorem take_snoc {M : List Int32} {k : Nat} (h : k < M.length) : M.take (k + 1) = M.take k ++ [M.getD k 0] := by
  rw [List.take_succ, List.getD_eq_getElem?_getD, List.getElem?_eq_getElem h]
  rfl
theorem take_app {l M : List Int32} {k : Nat} (h : k < M.length) : l ++ M.take (k + 1) = (l ++ M.take k) ++ [M.getD k 0] := by
  rw [take_snoc h, List.append_assoc]
theorem getD_mem {M : List Int32} {k : Nat} (h : k < M.length) : M.getD k 0 ∈ M := by
  rw [List.getD_eq_getElem?_getD, List.getElem?_eq_getElem h]
  exact List.getElem_mem h
theorem getD_ok {M : List Int32} {k : Nat} (hM : allOk M) (h : k < M.length) : jarOk (M.getD k 0) := hM _ (getD_mem h)
theorem take_ok {M : List Int32} {k : Nat} (hM : allOk M) : allOk (M.take k) := fun x hx => hM x (List.mem_of_mem_take hx)
theorem app_ok {l k : List Int32} (h : allOk l) (h2 : allOk k) : allOk (l ++ k) := fun x hx => (List.mem_append.mp hx).elim (h x) (h2 x)
theorem absd {a b : Nat} (ha : a < 2 ^ 30) (hb : b < 2 ^ 30) : (if 0 ≤ nI b - nI a then nI b - nI a else 0 - (nI b - nI a)) = nI (dist a b) := by
  unfold dist
  have h0 : (0 : Int32).toInt = 0 := by decide
  by_cases h : a ≤ b
  · rw [pk_sub h, if_pos (nI_pos' (by omega)), show a - b = 0 by omega]
    rfl
  · have h3 : nI b - nI a < 0 := pk_sneg ha (by omega)
    have h5 : (nI b - nI a).toInt < (0 : Int32).toInt := Int32.lt_iff_toInt_lt.mp h3
    rw [if_neg, show b - a = 0 by omega, Nat.zero_add]
    · have e : nI a - nI b = nI (a - b) := pk_sub (by omega)
      rw [← e]
      rw [Int32.zero_sub, Int32.neg_sub]
    · intro h4
      have h6 : (0 : Int32).toInt ≤ (nI b - nI a).toInt := Int32.le_iff_toInt_le.mp h4
      omega
