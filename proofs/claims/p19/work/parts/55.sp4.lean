/-! what the asking of a jar does to the others -/
theorem er_idx_lt {w y z : Int32} : ∀ {l : List Int32}, y ≠ w → z ≠ w → ((l.erase w).idxOf y < (l.erase w).idxOf z ↔ l.idxOf y < l.idxOf z)
  | [], _, _ => by simp
  | a :: l, hy, hz => by
    by_cases e : a = w
    · subst e
      rw [List.erase_cons_head, List.idxOf_cons, List.idxOf_cons]
      have e1 : (a == y) = false := by simpa using (fun h : a = y => hy h.symm)
      have e2 : (a == z) = false := by simpa using (fun h : a = z => hz h.symm)
      rw [e1, e2]
      simp
    · have e3 : ¬ (a == w) = true := by simpa using e
      rw [List.erase_cons_tail e3, List.idxOf_cons, List.idxOf_cons, List.idxOf_cons, List.idxOf_cons]
      have ih := er_idx_lt (l := l) hy hz
      by_cases c1 : a = y
      · have e1 : (a == y) = true := by simpa using c1
        by_cases c2 : a = z
        · have e2 : (a == z) = true := by simpa using c2
          rw [e1, e2]; simp
        · have e2 : (a == z) = false := by simpa using c2
          rw [e1, e2]; simp
      · have e1 : (a == y) = false := by simpa using c1
        by_cases c2 : a = z
        · have e2 : (a == z) = true := by simpa using c2
          rw [e1, e2]; simp
        · have e2 : (a == z) = false := by simpa using c2
          rw [e1, e2]
          simpa using ih
theorem er_idx_le {w y : Int32} : ∀ {l : List Int32}, y ≠ w → (l.erase w).idxOf y ≤ l.idxOf y
  | [], _ => by simp
  | a :: l, hy => by
    by_cases e : a = w
    · subst e
      rw [List.erase_cons_head, List.idxOf_cons]
      have e1 : (a == y) = false := by simpa using (fun h : a = y => hy h.symm)
      rw [e1]
      simp
    · have e3 : ¬ (a == w) = true := by simpa using e
      rw [List.erase_cons_tail e3, List.idxOf_cons, List.idxOf_cons]
      have ih := er_idx_le (l := l) hy
      by_cases c1 : a = y
      · have e1 : (a == y) = true := by simpa using c1
        rw [e1]; simp
      · have e1 : (a == y) = false := by simpa using c1
        rw [e1]
        simpa using ih
theorem cons_idx_lt {w y z : Int32} {l : List Int32} (hy : y ≠ w) (hz : z ≠ w) : ((w :: l).idxOf y < (w :: l).idxOf z ↔ l.idxOf y < l.idxOf z) := by
  rw [List.idxOf_cons, List.idxOf_cons]
  have e1 : (w == y) = false := by simpa using (fun h : w = y => hy h.symm)
  have e2 : (w == z) = false := by simpa using (fun h : w = z => hz h.symm)
  rw [e1, e2]
  simp
/-- who isn't in W stays where it was, and the order of two of them too -/
def Pres (W : Int32 → Prop) (q q2 : Q4) : Prop := ∀ y, ¬ W y → whr q2 y = whr q y ∧ ∀ z, ¬ W z → ∀ r, (rowQ q2 r).idxOf y < (rowQ q2 r).idxOf z ↔ (rowQ q r).idxOf y < (rowQ q r).idxOf z
theorem Pres.rf {W : Int32 → Prop} {q : Q4} : Pres W q q := fun _ _ => ⟨rfl, fun _ _ _ => Iff.rfl⟩
theorem Pres.tr {W : Int32 → Prop} {q q2 q3 : Q4} (h : Pres W q q2) (h2 : Pres W q2 q3) : Pres W q q3 := fun y hy => ⟨(h2 y hy).1.trans (h y hy).1, fun z hz r => ((h2 y hy).2 z hz r).trans ((h y hy).2 z hz r)⟩
theorem Pres.wk {W V : Int32 → Prop} {q q2 : Q4} (h : Pres W q q2) (hw : ∀ y, W y → V y) : Pres V q q2 := fun y hy => ⟨(h y (fun z => hy (hw y z))).1, fun z hz r => (h y (fun z => hy (hw y z))).2 z (fun w => hz (hw z w)) r⟩
theorem row_del (w : Int32) (q : Q4) (r : Nat) : rowQ (delq w q) r = (rowQ q r).erase w := by
  unfold rowQ delq
  split
  · rfl
  · split
    · rfl
    · split <;> rfl
theorem Pres.del {q : Q4} (hd : Nd q) (w : Int32) : Pres (fun y => y = w) q (delq w q) := fun y hy => ⟨by rw [delq_whr hd, if_neg hy], fun z hz r => by rw [row_del]; exact er_idx_lt hy hz⟩
theorem row_ins {k r : Nat} (w : Int32) (q : Q4) (h1 : 1 ≤ k) (h4 : k ≤ 4) : rowQ (insq k w q) r = rowQ q r ∨ rowQ (insq k w q) r = w :: rowQ q r := by
  rcases (show k = 1 ∨ k = 2 ∨ k = 3 ∨ k = 4 by omega) with rfl | rfl | rfl | rfl
  · by_cases c : r = 1
    · subst c; exact Or.inr rfl
    · refine Or.inl ?_; unfold rowQ insq; simp [c]
  · by_cases c : r = 2
    · subst c; exact Or.inr rfl
    · refine Or.inl ?_; unfold rowQ insq; simp [c]
  · by_cases c : r = 3
    · subst c; exact Or.inr rfl
    · refine Or.inl ?_; unfold rowQ insq; simp [c]
  · by_cases c : r = 1
    · subst c; exact Or.inl rfl
    · by_cases c2 : r = 2
      · subst c2; exact Or.inl rfl
      · by_cases c3 : r = 3
        · subst c3; exact Or.inl rfl
        · refine Or.inr ?_; unfold rowQ insq; simp [c, c2, c3]
theorem Pres.ins {q : Q4} {k : Nat} {w : Int32} (h1 : 1 ≤ k) (h4 : k ≤ 4) (h0 : whr q w = 0) : Pres (fun y => y = w) q (insq k w q) := fun y hy => ⟨by rw [insq_whr h1 h4 h0, if_neg hy], fun z hz r => by
  rcases row_ins (r := r) w q h1 h4 with e | e <;> rw [e]
  exact cons_idx_lt hy hz⟩
theorem Pres.put {q : Q4} {k : Nat} {w : Int32} (hd : Nd q) (h1 : 1 ≤ k) (h4 : k ≤ 4) : Pres (fun y => y = w) q (insq k w (delq w q)) := (Pres.del hd w).tr (Pres.ins h1 h4 (by rw [delq_whr hd, if_pos rfl]))
/-- room is made: X goes, -1 if none -/
def GoneX (q q1 : Q4) (X x : Int32) : Prop := X = -1 ∨ (jarOk X ∧ X ≠ x ∧ (whr q X = 1 ∨ whr q X = 2) ∧ (whr q1 X = 0 ∨ (whr q1 X = whr q X + 2 ∧ (rowQ q1 (whr q1 X)).idxOf X = 0)))
/-- l was a ghost that went, -1 if none -/
def GoneL (q q1 : Q4) (l x : Int32) : Prop := l = -1 ∨ (l ≠ x ∧ 3 ≤ whr q l ∧ whr q1 l = 0)
def Left (q q1 : Q4) (X l x : Int32) : Prop := Nd q1 ∧ Pres (fun y => y = X ∨ y = l) q q1 ∧ GoneX q q1 X x ∧ GoneL q q1 l x
theorem room_left {c b : Nat} {ff : Bool} {q : Q4} {x : Int32} (hn : Num c b q) (hd : Nd q) (hj : Jrs q) (hx : whr q x ≠ 1 ∧ whr q x ≠ 2) : Pres (fun y => y = sRoomX c b ff q (-1)) q (sRoom c b ff q) ∧ GoneX q (sRoom c b ff q) (sRoomX c b ff q (-1)) x := by
  rcases room_cases (ff := ff) hn with ⟨z, e, ex⟩ | ⟨h, ho, z, e, ex⟩ | ⟨h, ho, z, e, ex⟩ <;> rw [ex]
  · rw [e]
    exact ⟨Pres.rf, Or.inl rfl⟩
  · have e2 := roB (c := c) (b := b) (ff := ff) hd h ho
    have hm := lst_mem z
    have hw := (whr_iff hd _).1.mpr hm
    have hw3 : whr (sRoom c b ff q) (lst q.1) = 3 := by rw [← e2, insq_whr (by decide) (by decide) (by rw [delq_whr hd, if_pos rfl]), if_pos rfl]
    refine ⟨?_, Or.inr ⟨hj.1 _ hm, fun z2 => hx.1 (by rw [← z2]; exact hw), Or.inl hw, Or.inr ⟨by rw [hw3, hw], ?_⟩⟩⟩
    · rw [← e2]
      exact Pres.put hd (by decide) (by decide)
    · rw [hw3, e]
      show (lst q.1 :: q.2.2.1).idxOf (lst q.1) = 0
      simp
  · have e2 := roC (c := c) (b := b) (ff := ff) hd h ho z
    have hm := lst_mem z
    have hw := (whr_iff hd _).2.1.mpr hm
    have hw3 : whr (sRoom c b ff q) (lst q.2.1) = 4 := by rw [← e2, insq_whr (by decide) (by decide) (by rw [delq_whr hd, if_pos rfl]), if_pos rfl]
    refine ⟨?_, Or.inr ⟨hj.2.1 _ hm, fun z2 => hx.2 (by rw [← z2]; exact hw), Or.inr hw, Or.inr ⟨by rw [hw3, hw], ?_⟩⟩⟩
    · rw [← e2]
      exact Pres.put hd (by decide) (by decide)
    · rw [hw3, e]
      show (lst q.2.1 :: q.2.2.2).idxOf (lst q.2.1) = 0
      simp
theorem room_left2 {c b : Nat} {ff : Bool} {q : Q4} {x : Int32} (hn : Num c b q) (hd : Nd q) (hj : Jrs q) (hx : whr q x ≠ 1 ∧ whr q x ≠ 2) : Left q (sRoom c b ff q) (sRoomX c b ff q (-1)) (-1) x := by
  obtain ⟨h1, h2⟩ := room_left (ff := ff) hn hd hj hx
  exact ⟨room_nd hn hd, h1.wk (fun y hy => Or.inl hy), h2, Or.inl rfl⟩
/-- a ghost goes, then room is made -/
theorem del_left {c b : Nat} {q : Q4} {x l : Int32} (hn : Num c b (delq l q)) (hd : Nd q) (hj : Jrs (delq l q)) (hx : whr q x = 0) (hl : 3 ≤ whr q l) (hl1 : l ≠ -1) : Left q (sRoom c b false (delq l q)) (sRoomX c b false (delq l q) (-1)) l x := by
  have hlx : l ≠ x := fun e => by rw [e] at hl; omega
  have hx2 : whr (delq l q) x = 0 := by rw [delq_whr hd, hx]; split <;> rfl
  have hll : whr (delq l q) l = 0 := by rw [delq_whr hd, if_pos rfl]
  obtain ⟨h2, h3⟩ := room_left (ff := false) (x := x) hn (delq_nd hd) hj (by rw [hx2]; exact ⟨by decide, by decide⟩)
  have hlX : ¬ l = sRoomX c b false (delq l q) (-1) := fun e => by
    rcases h3 with z | ⟨z1, z2, z3, z4⟩
    · exact hl1 (e.trans z)
    · rw [← e, hll] at z3
      omega
  refine ⟨room_nd hn (delq_nd hd), ((Pres.del hd l).wk (fun y hy => Or.inr hy)).tr (h2.wk (fun y hy => Or.inl hy)), ?_, Or.inr ⟨hlx, hl, ?_⟩⟩
  · rcases h3 with z | ⟨z1, z2, z3, z4⟩
    · exact Or.inl z
    · have e : whr (delq l q) (sRoomX c b false (delq l q) (-1)) = whr q (sRoomX c b false (delq l q) (-1)) := by rw [delq_whr hd, if_neg (fun z => hlX z.symm)]
      rw [e] at z3 z4
      exact Or.inr ⟨z1, z2, z3, z4⟩
  · exact (h2 l hlX).1.trans hll
theorem row_ins2 {k r : Nat} (w : Int32) (q : Q4) (h : k = 1 ∨ k = 2) (hr : r = 3 ∨ r = 4) : rowQ (insq k w q) r = rowQ q r := by
  rcases h with rfl | rfl <;> rcases hr with rfl | rfl <;> rfl
/-- .. and the asked jar comes -/
theorem put_left {q q1 : Q4} {X l x : Int32} {k : Nat} (h : Left q q1 X l x) (hk : k = 1 ∨ k = 2) : Pres (fun y => y = x ∨ y = X ∨ y = l) q (insq k x (delq x q1)) ∧ GoneX q (insq k x (delq x q1)) X x ∧ GoneL q (insq k x (delq x q1)) l x ∧ whr (insq k x (delq x q1)) x = k := by
  obtain ⟨h1, h2, h3, h4⟩ := h
  have hp := Pres.put (q := q1) (k := k) (w := x) h1 (by omega) (by omega)
  refine ⟨(h2.wk (fun y hy => Or.inr hy)).tr (hp.wk (fun y hy => Or.inl hy)), ?_, ?_, ?_⟩
  · rcases h3 with z | ⟨z1, z2, z3, z4⟩
    · exact Or.inl z
    · have e := (hp X z2).1
      refine Or.inr ⟨z1, z2, z3, ?_⟩
      rw [e]
      rcases z4 with z4 | ⟨z4, z5⟩
      · exact Or.inl z4
      · refine Or.inr ⟨z4, ?_⟩
        rw [row_ins2 x (delq x q1) hk (by omega), row_del]
        have := er_idx_le (w := x) (l := rowQ q1 (whr q1 X)) z2
        omega
  · rcases h4 with z | ⟨z1, z2, z3⟩
    · exact Or.inl z
    · exact Or.inr ⟨z1, z2, (hp l z1).1.trans z3⟩
  · rw [insq_whr (by omega) (by omega) (by rw [delq_whr h1, if_pos rfl]), if_pos rfl]
theorem roomX_full {c b : Nat} {ff : Bool} {q : Q4} (h : ¬ sRoomX c b ff q (-1) = -1) : ¬ q.1.length + q.2.1.length < c := fun z => h (if_pos z)
/-- all that the asking does -/
def SF (c b : Nat) (q : Q4) (x l : Int32) : Prop := Pres (fun y => y = x ∨ y = sServeX c b q x ∨ y = l) q (sServe c b q x) ∧ GoneX q (sServe c b q x) (sServeX c b q x) x ∧ GoneL q (sServe c b q x) l x ∧ whr (sServe c b q x) x = (if whr q x = 0 then 1 else 2) ∧ (¬ sServeX c b q x = -1 → ¬ (whr q x = 1 ∨ whr q x = 2) ∧ q.1.length + q.2.1.length = c)
theorem del_jrs {l : Int32} {q : Q4} (h : Jrs q) : Jrs (delq l q) := ⟨er_ok h.1, er_ok h.2.1, er_ok h.2.2.1, er_ok h.2.2.2⟩
theorem new_left {c b : Nat} {q : Q4} {x : Int32} (hn : Num c b q) (hd : Nd q) (hj : Jrs q) (hx : whr q x = 0) : (∃ l, Left q (sNew c b q) (sNewX c b q (-1)) l x) ∧ (¬ sNewX c b q (-1) = -1 → q.1.length + q.2.1.length = c) := by
  obtain ⟨n1, n2, n3, n4, n5, n6⟩ := id hn
  have hx2 : whr q x ≠ 1 ∧ whr q x ≠ 2 := by rw [hx]; exact ⟨by decide, by decide⟩
  by_cases h1 : q.1.length + q.2.2.1.length = c
  · by_cases h2 : 0 < q.2.2.1.length
    · have e0 := (del_lst hd).2.2.1 h2
      have hm := lst_mem h2
      have hw := (whr_iff hd _).2.2.1.mpr hm
      have hnd : Num c b (delq (lst q.2.2.1) q) := by rw [e0]; exact num_d3 hn
      have hL := del_left (x := x) hnd hd (del_jrs hj) hx (by omega) (ok_ne (hj.2.2.1 _ hm))
      rw [e0] at hL
      have e1 : sNew c b q = sRoom c b false (q.1, q.2.1, q.2.2.1.dropLast, q.2.2.2) := (snew1 h1 h2).symm
      have e2 : sNewX c b q (-1) = sRoomX c b false (q.1, q.2.1, q.2.2.1.dropLast, q.2.2.2) (-1) := by unfold sNewX; rw [if_pos h1, if_pos h2]
      rw [e1, e2]
      refine ⟨⟨_, hL⟩, fun z => ?_⟩
      have h9 : ¬ q.1.length + q.2.1.length < c := roomX_full z
      omega
    · have h0 : 0 < q.1.length := by omega
      have e1 : sNew c b q = delq (lst q.1) q := by rw [(del_lst hd).1 h0]; exact (snew2 h1 h2).symm
      have e2 : sNewX c b q (-1) = lst q.1 := by unfold sNewX; rw [if_pos h1, if_neg h2]
      have hm := lst_mem h0
      have hw := (whr_iff hd _).1.mpr hm
      rw [e1, e2]
      refine ⟨⟨-1, delq_nd hd, (Pres.del hd _).wk (fun y hy => Or.inl hy), Or.inr ⟨hj.1 _ hm, fun z => ?_, Or.inl hw, Or.inl (by rw [delq_whr hd, if_pos rfl])⟩, Or.inl rfl⟩, fun z => by omega⟩
      rw [z, hx] at hw
      omega
  · by_cases h3 : c ≤ q.1.length + q.2.2.1.length + q.2.1.length + q.2.2.2.length
    · by_cases h2 : q.1.length + q.2.2.1.length + q.2.1.length + q.2.2.2.length = c + c
      · have h0 : 0 < q.2.2.2.length := by omega
        have e0 := (del_lst hd).2.2.2 h0
        have hm := lst_mem h0
        have hw := (whr_iff hd _).2.2.2.mpr hm
        have hnd : Num c b (delq (lst q.2.2.2) q) := by rw [e0]; exact num_d4 hn
        have hL := del_left (x := x) hnd hd (del_jrs hj) hx (by omega) (ok_ne (hj.2.2.2 _ hm))
        rw [e0] at hL
        have e1 : sNew c b q = sRoom c b false (q.1, q.2.1, q.2.2.1, q.2.2.2.dropLast) := (snew3 h1 h2 h3).symm
        have e2 : sNewX c b q (-1) = sRoomX c b false (q.1, q.2.1, q.2.2.1, q.2.2.2.dropLast) (-1) := by
          unfold sNewX sAll
          rw [if_neg h1, if_pos h3, if_pos (by omega)]
        rw [e1, e2]
        refine ⟨⟨_, hL⟩, fun z => ?_⟩
        have h9 : ¬ q.1.length + q.2.1.length < c := roomX_full z
        omega
      · have e1 : sNew c b q = sRoom c b false q := (snew4 h1 h2 h3).symm
        have e2 : sNewX c b q (-1) = sRoomX c b false q (-1) := by
          unfold sNewX sAll
          rw [if_neg h1, if_pos h3, if_neg (by omega)]
        rw [e1, e2]
        refine ⟨⟨_, room_left2 (ff := false) hn hd hj hx2⟩, fun z => ?_⟩
        have h9 : ¬ q.1.length + q.2.1.length < c := roomX_full z
        omega
    · have e1 : sNew c b q = q := (snew5 h1 h3).symm
      have e2 : sNewX c b q (-1) = -1 := by
        unfold sNewX sAll
        rw [if_neg h1, if_neg h3]
      rw [e1, e2]
      exact ⟨⟨-1, hd, Pres.rf, Or.inl rfl, Or.inl rfl⟩, fun z => absurd rfl z⟩
theorem serve_sf {c b : Nat} {q : Q4} {x : Int32} (hn : Num c b q) (hd : Nd q) (hj : Jrs q) : ∃ l, SF c b q x l := by
  obtain ⟨n1, n2, n3, n4, n5, n6⟩ := id hn
  rcases whr_cases q x with ⟨w, -⟩ | ⟨w, -⟩ | ⟨w, -⟩ | ⟨w, -⟩ | ⟨w, -⟩
  · obtain ⟨⟨l, hL⟩, hf⟩ := new_left hn hd hj w
    obtain ⟨a1, a2, a3, a4⟩ := put_left (k := 1) hL (Or.inl rfl)
    rw [put0 hn w] at a1 a2 a3 a4
    refine ⟨l, ?_⟩
    unfold SF
    rw [(serve0 w).2.2, w]
    exact ⟨a1, a2, a3, a4, fun z => ⟨by omega, hf z⟩⟩
  · have hL : Left q q (-1) (-1) x := ⟨hd, Pres.rf, Or.inl rfl, Or.inl rfl⟩
    obtain ⟨a1, a2, a3, a4⟩ := put_left (k := 2) hL (Or.inr rfl)
    rw [put1 (c := c) (b := b) hd w] at a1 a2 a3 a4
    refine ⟨-1, ?_⟩
    unfold SF
    rw [(serve1 w).2.2, w]
    exact ⟨a1, a2, a3, a4, fun z => absurd rfl z⟩
  · have hL : Left q q (-1) (-1) x := ⟨hd, Pres.rf, Or.inl rfl, Or.inl rfl⟩
    obtain ⟨a1, a2, a3, a4⟩ := put_left (k := 2) hL (Or.inr rfl)
    rw [put2 (c := c) (b := b) hd w] at a1 a2 a3 a4
    refine ⟨-1, ?_⟩
    unfold SF
    rw [(serve2 w).2.2, w]
    exact ⟨a1, a2, a3, a4, fun z => absurd rfl z⟩
  · have hL := room_left2 (ff := false) (bord_num (x := x) hn) hd hj (x := x) (by rw [w]; exact ⟨by decide, by decide⟩)
    obtain ⟨a1, a2, a3, a4⟩ := put_left (k := 2) hL (Or.inr rfl)
    rw [put3 hn hd w] at a1 a2 a3 a4
    refine ⟨-1, ?_⟩
    unfold SF
    rw [(serve3 w).2.2, w]
    refine ⟨a1, a2, a3, a4, fun z => ⟨by omega, ?_⟩⟩
    have h9 := roomX_full z
    omega
  · have hL := room_left2 (ff := true) (bord_num (x := x) hn) hd hj (x := x) (by rw [w]; exact ⟨by decide, by decide⟩)
    obtain ⟨a1, a2, a3, a4⟩ := put_left (k := 2) hL (Or.inr rfl)
    rw [put4 hn hd w] at a1 a2 a3 a4
    refine ⟨-1, ?_⟩
    unfold SF
    rw [(serve4 w).2.2, w]
    refine ⟨a1, a2, a3, a4, fun z => ⟨by omega, ?_⟩⟩
    have h9 := roomX_full z
    omega
/-! full shelves stay full -/
theorem room_full {c b : Nat} {ff : Bool} {q : Q4} (hn : Num c b q) (h : q.1.length + q.2.1.length = c) : (sRoom c b ff q).1.length + (sRoom c b ff q).2.1.length + 1 = c := by
  rcases room_cases (ff := ff) hn with ⟨z, e, ex⟩ | ⟨-, ho, z, e, ex⟩ | ⟨-, ho, z, e, ex⟩
  · omega
  · rw [e]
    show q.1.dropLast.length + q.2.1.length + 1 = c
    rw [List.length_dropLast]; omega
  · rw [e]
    show q.1.length + q.2.1.dropLast.length + 1 = c
    rw [List.length_dropLast]; omega
theorem new_full {c b : Nat} {q : Q4} (hn : Num c b q) (h : q.1.length + q.2.1.length = c) : (sNew c b q).1.length + (sNew c b q).2.1.length + 1 = c := by
  obtain ⟨n1, n2, n3, n4, n5, n6⟩ := id hn
  by_cases h1 : q.1.length + q.2.2.1.length = c
  · by_cases h2 : 0 < q.2.2.1.length
    · rw [← snew1 (b := b) h1 h2]
      exact room_full (q := (q.1, q.2.1, q.2.2.1.dropLast, q.2.2.2)) (num_d3 hn) h
    · rw [← snew2 (b := b) h1 h2]
      show q.1.dropLast.length + q.2.1.length + 1 = c
      rw [List.length_dropLast]; omega
  · have h3 : c ≤ q.1.length + q.2.2.1.length + q.2.1.length + q.2.2.2.length := by omega
    by_cases h2 : q.1.length + q.2.2.1.length + q.2.1.length + q.2.2.2.length = c + c
    · rw [← snew3 (b := b) h1 h2 h3]
      exact room_full (q := (q.1, q.2.1, q.2.2.1, q.2.2.2.dropLast)) (num_d4 hn) h
    · rw [← snew4 (b := b) h1 h2 h3]
      exact room_full hn h
theorem serve_full {c b : Nat} {q : Q4} {x : Int32} (hn : Num c b q) (h : q.1.length + q.2.1.length = c) : (sServe c b q x).1.length + (sServe c b q x).2.1.length = c := by
  rcases whr_cases q x with ⟨w, -⟩ | ⟨w, m⟩ | ⟨w, -, m⟩ | ⟨w, -⟩ | ⟨w, -⟩
  · rw [(serve0 w).1]
    have := new_full hn h
    show (x :: (sNew c b q).1).length + (sNew c b q).2.1.length = c
    rw [List.length_cons]; omega
  · rw [(serve1 w).1]
    have := List.length_pos_of_mem m
    show (rmv q.1 x).length + (x :: q.2.1).length = c
    rw [List.length_cons, rmv_len m]; omega
  · rw [(serve2 w).1]
    have := List.length_pos_of_mem m
    show q.1.length + (x :: rmv q.2.1 x).length = c
    rw [List.length_cons, rmv_len m]; omega
  · rw [(serve3 w).2.1]
    have := room_full (ff := false) (bord_num (x := x) hn) h
    show (sRoom c (sBord c b q x) false q).1.length + (x :: (sRoom c (sBord c b q x) false q).2.1).length = c
    rw [List.length_cons]; omega
  · rw [(serve4 w).2.1]
    have := room_full (ff := true) (bord_num (x := x) hn) h
    show (sRoom c (sBord c b q x) true q).1.length + (x :: (sRoom c (sBord c b q x) true q).2.1).length = c
    rw [List.length_cons]; omega
/-- the asked jar is in front -/
theorem serve_front {c b : Nat} {q : Q4} {x : Int32} (hn : Num c b q) (hd : Nd q) : tplc (sServe c b q x) x = nI 0 := by
  have hnd := serve_nd (x := x) hn hd
  have key : ∀ l : List Int32, pos (x :: l) x = nI 0 := fun l => by
    rw [pos_idx List.mem_cons_self]
    simp
  rcases whr_cases q x with ⟨w, -⟩ | ⟨w, m⟩ | ⟨w, -, m⟩ | ⟨w, -⟩ | ⟨w, -⟩
  · have e := (serve0 (c := c) (b := b) w).1
    rw [e] at hnd ⊢
    rw [tplc1 ((whr_iff hnd x).1.mpr List.mem_cons_self)]
    exact key _
  · have e := (serve1 (c := c) (b := b) w).1
    rw [e] at hnd ⊢
    rw [tplc2 ((whr_iff hnd x).2.1.mpr List.mem_cons_self)]
    exact key _
  · have e := (serve2 (c := c) (b := b) w).1
    rw [e] at hnd ⊢
    rw [tplc2 ((whr_iff hnd x).2.1.mpr List.mem_cons_self)]
    exact key _
  · have e := (serve3 (c := c) (b := b) w).2.1
    rw [e] at hnd ⊢
    rw [tplc2 ((whr_iff hnd x).2.1.mpr List.mem_cons_self)]
    exact key _
  · have e := (serve4 (c := c) (b := b) w).2.1
    rw [e] at hnd ⊢
    rw [tplc2 ((whr_iff hnd x).2.1.mpr List.mem_cons_self)]
    exact key _
/-! the same for the law: a jar y beside the asked one -/
/-- y is the one that leaves: of recent or frequent; or it stays, or was a ghost and is nowhere -/
theorem sf_cases {c b : Nat} {q : Q4} {x l y : Int32} (h : SF c b q x l) (hy : y ≠ x) (hyj : jarOk y) : (y = sServeX c b q x ∧ (whr q y = 1 ∨ whr q y = 2) ∧ (whr (sServe c b q x) y = 0 ∨ (whr (sServe c b q x) y = whr q y + 2 ∧ (rowQ (sServe c b q x) (whr (sServe c b q x) y)).idxOf y = 0))) ∨ (y ≠ sServeX c b q x ∧ (whr (sServe c b q x) y = whr q y ∨ (3 ≤ whr q y ∧ whr (sServe c b q x) y = 0))) := by
  obtain ⟨h1, h2, h3, h4, h5⟩ := h
  by_cases e : y = sServeX c b q x
  · rcases h2 with z | ⟨z1, z2, z3, z4⟩
    · exact absurd (e.trans z) (ok_ne hyj)
    · rw [← e] at z3 z4
      exact Or.inl ⟨e, z3, z4⟩
  · by_cases e2 : y = l
    · rcases h3 with z | ⟨z1, z2, z3⟩
      · exact absurd (e2.trans z) (ok_ne hyj)
      · rw [← e2] at z2 z3
        exact Or.inr ⟨e, Or.inr ⟨z2, z3⟩⟩
    · exact Or.inr ⟨e, Or.inl (h1 y (fun z => z.elim hy (fun z => z.elim e e2))).1⟩
theorem sf_ord {c b : Nat} {q : Q4} {x l y z : Int32} (h : SF c b q x l) (hd : Nd q) (hd2 : Nd (sServe c b q x)) (hy : y ≠ x) (hz : z ≠ x) (hyj : jarOk y) (hzj : jarOk z) (e1 : whr q z = whr q y) (e2 : whr (sServe c b q x) y = whr q y) (e3 : whr (sServe c b q x) z = whr (sServe c b q x) y) (h0 : 0 < whr (sServe c b q x) y) (l12 : ∀ w : Int32, (rowQ q (whr q y)).idxOf w < 2 ^ 31 ∧ (rowQ (sServe c b q x) (whr q y)).idxOf w < 2 ^ 31) : (tplc q y < tplc q z) ↔ (tplc (sServe c b q x) y < tplc (sServe c b q x) z) := by
  have hW : ∀ w, w ≠ x → jarOk w → whr (sServe c b q x) w = whr q w → 0 < whr q w → ¬ (w = x ∨ w = sServeX c b q x ∨ w = l) := fun w hw hwj hs hp z => by
    obtain ⟨-, h2, h3, -⟩ := h
    rcases z with z | z | z
    · exact hw z
    · rcases h2 with z2 | ⟨-, -, z3, z4⟩
      · exact ok_ne hwj (z.trans z2)
      · rw [← z] at z3 z4
        omega
    · rcases h3 with z2 | ⟨-, z3, z4⟩
      · exact ok_ne hwj (z.trans z2)
      · rw [← z] at z3 z4
        omega
  have hp := (h.1 y (hW y hy hyj e2 (by omega))).2 z (hW z hz hzj (by omega) (by omega)) (whr q y)
  rw [tplc_row hd (by omega), tplc_row hd (by omega), tplc_row hd2 (by omega), tplc_row hd2 (by omega), e1, e3, e2, nI_ltI (l12 _).1 (l12 _).1, nI_ltI (l12 _).2 (l12 _).2]
  exact hp.symm
theorem row_len {c b : Nat} {q : Q4} (hn : Num c b q) (r : Nat) (w : Int32) : (rowQ q r).idxOf w < 2 ^ 31 := by
  obtain ⟨n1, n2, n3, n4, n5, n6⟩ := id hn
  have h : (rowQ q r).idxOf w ≤ (rowQ q r).length := List.idxOf_le_length
  have h2 : (rowQ q r).length ≤ 24 := by
    unfold rowQ
    split
    · omega
    · split
      · omega
      · split <;> omega
  omega
