/-! each jar stands in one row at most; and who would leave, told both ways -/
def it (p : Prop) [Decidable p] : Nat := if p then 1 else 0
theorem it_t {p : Prop} [Decidable p] (h : p) : it p = 1 := if_pos h
theorem it_f {p : Prop} [Decidable p] (h : ¬ p) : it p = 0 := if_neg h
theorem it_le {p : Prop} [Decidable p] : it p ≤ 1 := by unfold it; split <;> omega
theorem cnt_cons {x a : Int32} {l : List Int32} : (x :: l).count a = l.count a + it (x = a) := by
  rw [List.count_cons]
  unfold it
  by_cases h : x = a <;> simp [h]
theorem dl_lst {l : List Int32} (h : 0 < l.length) : l = l.dropLast ++ [lst l] := by
  have h0 : l ≠ [] := fun z => by rw [z] at h; exact absurd h (Nat.not_lt_zero _)
  have e : lst l = l.getLast h0 := by
    unfold lst
    rw [List.getD_eq_getElem?_getD, List.getLast_eq_getElem, List.getElem?_eq_getElem (by omega)]
    rfl
  rw [e]
  exact (List.dropLast_concat_getLast h0).symm
theorem cnt_dl {a : Int32} {l : List Int32} (h : 0 < l.length) : l.count a = l.dropLast.count a + it (lst l = a) := by
  have e := congrArg (fun z => List.count a z) (dl_lst h)
  refine e.trans ?_
  show List.count a (l.dropLast ++ [lst l]) = _
  rw [List.count_append, cnt_cons, List.count_nil, Nat.zero_add]
theorem cnt_dl_le {a : Int32} {l : List Int32} : l.dropLast.count a ≤ l.count a := (List.dropLast_sublist l).count_le a
theorem rmv_erase {l : List Int32} {x : Int32} : rmv l x = l.erase x := (List.erase_eq_eraseIdx_of_idxOf rfl).symm
theorem cnt_rmv {a x : Int32} {l : List Int32} (h : x ∈ l) : l.count a = (rmv l x).count a + it (x = a) := by
  rw [rmv_erase]
  by_cases e : x = a
  · subst e
    rw [it_t rfl, List.count_erase_self]
    have := List.count_pos_iff.mpr h
    omega
  · rw [it_f e, List.count_erase_of_ne (fun z => e z.symm), Nat.add_zero]
theorem cnt_rmv_le {a x : Int32} {l : List Int32} : (rmv l x).count a ≤ l.count a := (List.eraseIdx_sublist _ _).count_le a
def tot (q : Q4) (a : Int32) : Nat := q.1.count a + q.2.1.count a + q.2.2.1.count a + q.2.2.2.count a
def Nd (q : Q4) : Prop := ∀ a, tot q a ≤ 1
theorem room_tot {c b : Nat} {ff : Bool} {q : Q4} (hn : Num c b q) (a : Int32) : tot (sRoom c b ff q) a = tot q a := by
  rcases room_cases (ff := ff) hn with ⟨-, e, -⟩ | ⟨-, -, z, e, -⟩ | ⟨-, -, z, e, -⟩ <;> rw [e]
  · have := cnt_dl (a := a) z
    show q.1.dropLast.count a + q.2.1.count a + (lst q.1 :: q.2.2.1).count a + q.2.2.2.count a = q.1.count a + q.2.1.count a + q.2.2.1.count a + q.2.2.2.count a
    rw [cnt_cons]
    omega
  · have := cnt_dl (a := a) z
    show q.1.count a + q.2.1.dropLast.count a + q.2.2.1.count a + (lst q.2.1 :: q.2.2.2).count a = q.1.count a + q.2.1.count a + q.2.2.1.count a + q.2.2.2.count a
    rw [cnt_cons]
    omega
theorem new_tot {c b : Nat} {q : Q4} (hn : Num c b q) (a : Int32) : tot (sNew c b q) a ≤ tot q a := by
  unfold sNew
  split
  · rename_i h1
    split
    · rename_i h2
      have hn2 : Num c b (q.1, q.2.1, q.2.2.1.dropLast, q.2.2.2) := by simp only [Num, List.length_dropLast] at *; omega
      rw [room_tot hn2]
      have := cnt_dl_le (a := a) (l := q.2.2.1)
      show q.1.count a + q.2.1.count a + q.2.2.1.dropLast.count a + q.2.2.2.count a ≤ q.1.count a + q.2.1.count a + q.2.2.1.count a + q.2.2.2.count a
      omega
    · have := cnt_dl_le (a := a) (l := q.1)
      show q.1.dropLast.count a + q.2.1.count a + q.2.2.1.count a + q.2.2.2.count a ≤ q.1.count a + q.2.1.count a + q.2.2.1.count a + q.2.2.2.count a
      omega
  · split
    · split
      · have hn2 : Num c b (q.1, q.2.1, q.2.2.1, q.2.2.2.dropLast) := by simp only [Num, List.length_dropLast] at *; omega
        rw [room_tot hn2]
        have := cnt_dl_le (a := a) (l := q.2.2.2)
        show q.1.count a + q.2.1.count a + q.2.2.1.count a + q.2.2.2.dropLast.count a ≤ q.1.count a + q.2.1.count a + q.2.2.1.count a + q.2.2.2.count a
        omega
      · rw [room_tot hn]
        exact Nat.le_refl _
    · exact Nat.le_refl _
theorem bord_num {c b : Nat} {q : Q4} {x : Int32} (h : Num c b q) : Num c (sBord c b q x) q := ⟨h.1, h.2.1, bord_le h.2.2.1, h.2.2.2.1, h.2.2.2.2.1, h.2.2.2.2.2⟩
theorem serve_nd {c b : Nat} {q : Q4} {x : Int32} (hn : Num c b q) (hd : Nd q) : Nd (sServe c b q x) := by
  intro a
  have hda := hd a
  rcases whr_cases q x with ⟨w, m1, m2, m3, m4⟩ | ⟨w, m⟩ | ⟨w, -, m⟩ | ⟨w, -, -, m⟩ | ⟨w, -, -, -, m⟩
  · rw [(serve0 w).1]
    have h1 := new_tot hn a
    show (x :: (sNew c b q).1).count a + (sNew c b q).2.1.count a + (sNew c b q).2.2.1.count a + (sNew c b q).2.2.2.count a ≤ 1
    rw [cnt_cons]
    have h2 : tot (sNew c b q) a = (sNew c b q).1.count a + (sNew c b q).2.1.count a + (sNew c b q).2.2.1.count a + (sNew c b q).2.2.2.count a := rfl
    by_cases e : x = a
    · subst e
      have h3 : tot q x = 0 := by
        unfold tot
        rw [List.count_eq_zero.mpr m1, List.count_eq_zero.mpr m2, List.count_eq_zero.mpr m3, List.count_eq_zero.mpr m4]
      rw [it_t rfl]
      omega
    · rw [it_f e]
      omega
  · rw [(serve1 w).1]
    have h1 := cnt_rmv (a := a) m
    show (rmv q.1 x).count a + (x :: q.2.1).count a + q.2.2.1.count a + q.2.2.2.count a ≤ 1
    rw [cnt_cons]
    have h2 : tot q a = q.1.count a + q.2.1.count a + q.2.2.1.count a + q.2.2.2.count a := rfl
    omega
  · rw [(serve2 w).1]
    have h1 := cnt_rmv (a := a) m
    show q.1.count a + (x :: rmv q.2.1 x).count a + q.2.2.1.count a + q.2.2.2.count a ≤ 1
    rw [cnt_cons]
    have h2 : tot q a = q.1.count a + q.2.1.count a + q.2.2.1.count a + q.2.2.2.count a := rfl
    omega
  · rw [(serve3 w).2.1]
    have hn2 := bord_num (x := x) hn
    have h1 := room_tot (ff := false) hn2 a
    have h2 := cnt_rmv (a := a) (room_mem3 (ff := false) hn2 m)
    have h3 : tot (sRoom c (sBord c b q x) false q) a = (sRoom c (sBord c b q x) false q).1.count a + (sRoom c (sBord c b q x) false q).2.1.count a + (sRoom c (sBord c b q x) false q).2.2.1.count a + (sRoom c (sBord c b q x) false q).2.2.2.count a := rfl
    show (sRoom c (sBord c b q x) false q).1.count a + (x :: (sRoom c (sBord c b q x) false q).2.1).count a + (rmv (sRoom c (sBord c b q x) false q).2.2.1 x).count a + (sRoom c (sBord c b q x) false q).2.2.2.count a ≤ 1
    rw [cnt_cons]
    omega
  · rw [(serve4 w).2.1]
    have hn2 := bord_num (x := x) hn
    have h1 := room_tot (ff := true) hn2 a
    have h2 := cnt_rmv (a := a) (room_mem4 (ff := true) hn2 m)
    have h3 : tot (sRoom c (sBord c b q x) true q) a = (sRoom c (sBord c b q x) true q).1.count a + (sRoom c (sBord c b q x) true q).2.1.count a + (sRoom c (sBord c b q x) true q).2.2.1.count a + (sRoom c (sBord c b q x) true q).2.2.2.count a := rfl
    show (sRoom c (sBord c b q x) true q).1.count a + (x :: (sRoom c (sBord c b q x) true q).2.1).count a + (sRoom c (sBord c b q x) true q).2.2.1.count a + (rmv (sRoom c (sBord c b q x) true q).2.2.2 x).count a ≤ 1
    rw [cnt_cons]
    omega
theorem ask_nd {c : Nat} {x : Int32} {s : St} (h : StOk c s) (hd : Nd s.1) : Nd (askS c x s).1 := serve_nd h.1 hd
theorem foldS_nd {c : Nat} : ∀ {l : List Int32} {s : St}, allOk l → StOk c s → Nd s.1 → Nd (foldS c l s).1
  | [], _, _, _, h => h
  | x :: l, s, hl, ho, h => foldS_nd (l := l) (s := askS c x s) (fun y hy => hl y (List.mem_cons_of_mem _ hy)) (ask_ok ho (hl x List.mem_cons_self)) (ask_nd ho h)
theorem nd_nil : Nd (([], [], [], []) : Q4) := fun a => by show 0 + 0 + 0 + 0 ≤ 1; omega
theorem nd_sweep {L1 L2 L3 L4 : List Int32} (h : Nd (L1, L2, L3, L4)) : Nd (L1, L2, [], []) := fun a => by
  have : L1.count a + L2.count a + L3.count a + L4.count a ≤ 1 := h a
  show L1.count a + L2.count a + 0 + 0 ≤ 1
  omega
theorem nd_spoil {L1 L2 L3 L4 : List Int32} {x : Int32} (h : Nd (L1, L2, L3, L4)) : Nd (if whr (L1, L2, L3, L4) x = 1 then ((rmv L1 x, L2, L3, L4) : Q4) else (L1, rmv L2 x, L3, L4)) := fun a => by
  have h0 : L1.count a + L2.count a + L3.count a + L4.count a ≤ 1 := h a
  split
  · have := cnt_rmv_le (a := a) (x := x) (l := L1)
    show (rmv L1 x).count a + L2.count a + L3.count a + L4.count a ≤ 1
    omega
  · have := cnt_rmv_le (a := a) (x := x) (l := L2)
    show L1.count a + (rmv L2 x).count a + L3.count a + L4.count a ≤ 1
    omega
/-! who would leave -/
theorem whr12 {q : Q4} {y : Int32} : (whr q y = 1 ∨ whr q y = 2) ↔ (y ∈ q.1 ∨ y ∈ q.2.1) := by
  rcases whr_cases q y with ⟨w, m1, m2, -⟩ | ⟨w, m⟩ | ⟨w, -, m⟩ | ⟨w, m1, m2, -⟩ | ⟨w, m1, m2, -⟩
  · exact ⟨fun h => by omega, fun h => h.elim (fun z => absurd z m1) (fun z => absurd z m2)⟩
  · exact ⟨fun _ => Or.inl m, fun _ => Or.inl w⟩
  · exact ⟨fun _ => Or.inr m, fun _ => Or.inr w⟩
  · exact ⟨fun h => by omega, fun h => h.elim (fun z => absurd z m1) (fun z => absurd z m2)⟩
  · exact ⟨fun h => by omega, fun h => h.elim (fun z => absurd z m1) (fun z => absurd z m2)⟩
theorem tl_all {q : Q4} : ∀ {l : List Int32} {d : Int32}, (∀ y, y ∈ l → y ∈ q.1 ∨ y ∈ q.2.1) → tl q l d = d
  | [], _, _ => rfl
  | x :: l, d, h => by
    have e : tlS q d x = d := if_pos (whr12.mpr (h x List.mem_cons_self))
    show tl q l (tlS q d x) = d
    rw [e]
    exact tl_all (fun y hy => h y (List.mem_cons_of_mem _ hy))
theorem tl_last {q : Q4} {l : List Int32} {d : Int32} (h0 : 0 < l.length) (h : ¬ (lst l ∈ q.1 ∨ lst l ∈ q.2.1)) : tl q l d = lst l := by
  have e := congrArg (fun z => tl q z d) (dl_lst h0)
  refine e.trans ?_
  show List.foldl (tlS q) d (l.dropLast ++ [lst l]) = _
  rw [List.foldl_append]
  exact if_neg (fun z => h (whr12.mp z))
/-- q' : behind the serving; R1, R2: what stayed of the two rows -/
theorem tl_core {q' r : Q4} {c b : Nat} {ff : Bool} {x : Int32} (hn : Num c b r) (hd : ∀ a, r.1.count a + r.2.1.count a ≤ 1) (m1 : x ∉ r.1) (m2 : x ∉ r.2.1) (hH : ∀ y, (y ∈ q'.1 ∨ y ∈ q'.2.1) ↔ (y = x ∨ y ∈ (sRoom c b ff r).1 ∨ y ∈ (sRoom c b ff r).2.1)) : tl q' r.2.1 (tl q' r.1 (-1)) = sRoomX c b ff r (-1) := by
  rcases room_cases (ff := ff) hn with ⟨-, e, ex⟩ | ⟨-, -, z, e, ex⟩ | ⟨-, -, z, e, ex⟩ <;> rw [ex] <;> rw [e] at hH
  · rw [tl_all (l := r.1) (fun y hy => (hH y).mpr (Or.inr (Or.inl hy))), tl_all (fun y hy => (hH y).mpr (Or.inr (Or.inr hy)))]
  · have h9 : ¬ (lst r.1 ∈ q'.1 ∨ lst r.1 ∈ q'.2.1) := fun z9 => by
      have h1 := hd (lst r.1)
      have h2 := cnt_dl (a := lst r.1) z
      rw [it_t rfl] at h2
      rcases (hH _).mp z9 with h | h | h
      · exact m1 (h ▸ lst_mem z)
      · have h7 : 0 < List.count (lst r.1) r.1.dropLast := List.count_pos_iff.mpr h
        omega
      · have h7 : 0 < List.count (lst r.1) r.2.1 := List.count_pos_iff.mpr h
        omega
    rw [tl_last (l := r.1) z h9, tl_all (fun y hy => (hH y).mpr (Or.inr (Or.inr hy)))]
  · have h9 : ¬ (lst r.2.1 ∈ q'.1 ∨ lst r.2.1 ∈ q'.2.1) := fun z9 => by
      have h1 := hd (lst r.2.1)
      have h2 := cnt_dl (a := lst r.2.1) z
      rw [it_t rfl] at h2
      rcases (hH _).mp z9 with h | h | h
      · exact m2 (h ▸ lst_mem z)
      · have h7 : 0 < List.count (lst r.2.1) r.1 := List.count_pos_iff.mpr h
        omega
      · have h7 : 0 < List.count (lst r.2.1) r.2.1.dropLast := List.count_pos_iff.mpr h
        omega
    rw [tl_last (l := r.2.1) z h9]
theorem mem_rm {l : List Int32} {x y : Int32} (h : y ∈ l) : y = x ∨ y ∈ rmv l x := by
  by_cases e : y = x
  · exact Or.inl e
  · rw [rmv_erase]
    exact Or.inr ((List.mem_erase_of_ne e).mpr h)
theorem leaves_eq {c b : Nat} {q : Q4} {x : Int32} (hn : Num c b q) (hd : Nd q) : tl (sServe c b q x) q.2.1 (tl (sServe c b q x) q.1 (-1)) = sServeX c b q x := by
  have hd2 : ∀ a, q.1.count a + q.2.1.count a ≤ 1 := fun a => by
    have : q.1.count a + q.2.1.count a + q.2.2.1.count a + q.2.2.2.count a ≤ 1 := hd a
    omega
  rcases whr_cases q x with ⟨w, m1, m2, m3, m4⟩ | ⟨w, m⟩ | ⟨w, -, m⟩ | ⟨w, m1, m2, m⟩ | ⟨w, m1, m2, -, m⟩
  · rw [(serve0 w).1, (serve0 w).2.2]
    have hH : ∀ (r : Q4) (y : Int32), (y ∈ (x :: r.1) ∨ y ∈ r.2.1) ↔ (y = x ∨ y ∈ r.1 ∨ y ∈ r.2.1) := fun r y => by
      rw [List.mem_cons, or_assoc]
    unfold sNew sNewX
    split
    · rename_i h1
      split
      · rename_i h2
        have hn2 : Num c b (q.1, q.2.1, q.2.2.1.dropLast, q.2.2.2) := by simp only [Num, List.length_dropLast] at *; omega
        exact tl_core (r := (q.1, q.2.1, q.2.2.1.dropLast, q.2.2.2)) (x := x) hn2 hd2 m1 m2 (hH _)
      · have z : 0 < q.1.length := by have := hn.1; omega
        have h9 : ¬ (lst q.1 ∈ (x :: q.1.dropLast) ∨ lst q.1 ∈ q.2.1) := fun z9 => by
          have h1 := hd2 (lst q.1)
          have h2 := cnt_dl (a := lst q.1) z
          rw [it_t rfl] at h2
          rcases z9 with h | h
          · rcases List.mem_cons.mp h with h | h
            · exact m1 (h ▸ lst_mem z)
            · have := List.count_pos_iff.mpr h
              omega
          · have := List.count_pos_iff.mpr h
            omega
        rw [tl_last (l := q.1) z h9]
        exact tl_all (fun y hy => Or.inr hy)
    · split
      · split
        · have hn2 : Num c b (q.1, q.2.1, q.2.2.1, q.2.2.2.dropLast) := by simp only [Num, List.length_dropLast] at *; omega
          exact tl_core (r := (q.1, q.2.1, q.2.2.1, q.2.2.2.dropLast)) (x := x) hn2 hd2 m1 m2 (hH _)
        · exact tl_core (r := q) (x := x) hn hd2 m1 m2 (hH _)
      · rw [tl_all (l := q.1) (fun y hy => Or.inl (List.mem_cons_of_mem _ hy))]
        exact tl_all (fun y hy => Or.inr hy)
  · rw [(serve1 (c := c) (b := b) w).1, (serve1 (c := c) (b := b) w).2.2, tl_all (q := (rmv q.1 x, x :: q.2.1, q.2.2)) (l := q.1) (fun y hy => (mem_rm hy).elim (fun z => Or.inr (z ▸ List.mem_cons_self)) (fun z => Or.inl z))]
    exact tl_all (fun y hy => Or.inr (List.mem_cons_of_mem _ hy))
  · rw [(serve2 (c := c) (b := b) w).1, (serve2 (c := c) (b := b) w).2.2, tl_all (q := (q.1, x :: rmv q.2.1 x, q.2.2)) (l := q.1) (fun y hy => Or.inl hy)]
    exact tl_all (fun y hy => (mem_rm hy).elim (fun z => Or.inr (z ▸ List.mem_cons_self)) (fun z => Or.inr (List.mem_cons_of_mem _ z)))
  · rw [(serve3 w).2.1, (serve3 w).2.2]
    exact tl_core (x := x) (bord_num hn) hd2 m1 m2 (fun y => by rw [List.mem_cons]; exact ⟨fun h => h.elim (fun z => Or.inr (Or.inl z)) (fun z => z.elim Or.inl (fun z => Or.inr (Or.inr z))), fun h => h.elim (fun z => Or.inr (Or.inl z)) (fun z => z.elim Or.inl (fun z => Or.inr (Or.inr z)))⟩)
  · rw [(serve4 w).2.1, (serve4 w).2.2]
    exact tl_core (x := x) (bord_num hn) hd2 m1 m2 (fun y => by rw [List.mem_cons]; exact ⟨fun h => h.elim (fun z => Or.inr (Or.inl z)) (fun z => z.elim Or.inl (fun z => Or.inr (Or.inr z))), fun h => h.elim (fun z => Or.inr (Or.inl z)) (fun z => z.elim Or.inl (fun z => Or.inr (Or.inr z)))⟩)
