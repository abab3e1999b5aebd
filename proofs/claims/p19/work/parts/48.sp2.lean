/-! what the law's own pantry holds: at (fa), since (fb), the clock at ck; of the shelves q -/
def SQ (fa fb : Nat → Int32) (ck : Nat) (q : Q4) : Prop := ∃ S : Nat → Nat, (∀ j, j < 30 → fa j = nI (whr q (nI j))) ∧ (∀ j, j < 30 → fb j = nI (S j) ∧ S j ≤ ck) ∧ (srt S q.1 ∧ srt S q.2.1 ∧ srt S q.2.2.1 ∧ srt S q.2.2.2) ∧ Jrs q ∧ Nd q
/-- plain (fp), of the plain row P -/
def SP (fp : Nat → Int32) (ck : Nat) (P : List Int32) : Prop := ∃ S : Nat → Nat, (∀ j, j < 30 → fp j = nI (S j) ∧ S j ≤ ck) ∧ (∀ j, j < 30 → (0 < S j ↔ nI j ∈ P)) ∧ srt S P ∧ allOk P
theorem SQ.at_ {fa fb : Nat → Int32} {ck : Nat} {q : Q4} (h : SQ fa fb ck q) {j : Nat} (hj : j < 30) : fa j = nI (whr q (nI j)) := by
  obtain ⟨S, h1, -⟩ := h
  exact h1 j hj
theorem SQ.jrs {fa fb : Nat → Int32} {ck : Nat} {q : Q4} (h : SQ fa fb ck q) : Jrs q := by
  obtain ⟨S, -, -, -, h, -⟩ := h
  exact h
theorem SQ.nd {fa fb : Nat → Int32} {ck : Nat} {q : Q4} (h : SQ fa fb ck q) : Nd q := by
  obtain ⟨S, -, -, -, -, h⟩ := h
  exact h
theorem SQ.up {fa fb : Nat → Int32} {ck ck2 : Nat} {q : Q4} (h : SQ fa fb ck q) (hc : ck ≤ ck2) : SQ fa fb ck2 q := by
  obtain ⟨S, h1, h2, h3⟩ := h
  exact ⟨S, h1, fun j hj => ⟨(h2 j hj).1, Nat.le_trans (h2 j hj).2 hc⟩, h3⟩
theorem SP.up {fp : Nat → Int32} {ck ck2 : Nat} {P : List Int32} (h : SP fp ck P) (hc : ck ≤ ck2) : SP fp ck2 P := by
  obtain ⟨S, h1, h2⟩ := h
  exact ⟨S, fun j hj => ⟨(h1 j hj).1, Nat.le_trans (h1 j hj).2 hc⟩, h2⟩
/-! a row by its number -/
def rowQ (q : Q4) (k : Nat) : List Int32 := if k = 1 then q.1 else if k = 2 then q.2.1 else if k = 3 then q.2.2.1 else q.2.2.2
theorem mem_tot {q : Q4} {x : Int32} (h : x ∉ q.1) (h2 : x ∉ q.2.1) (h3 : x ∉ q.2.2.1) (h4 : x ∉ q.2.2.2) : whr q x = 0 := by
  unfold whr; rw [if_neg h, if_neg h2, if_neg h3, if_neg h4]
theorem nd_parts {q : Q4} (h : Nd q) (x : Int32) : (x ∈ q.1 → x ∉ q.2.1 ∧ x ∉ q.2.2.1 ∧ x ∉ q.2.2.2) ∧ (x ∈ q.2.1 → x ∉ q.1 ∧ x ∉ q.2.2.1 ∧ x ∉ q.2.2.2) ∧ (x ∈ q.2.2.1 → x ∉ q.1 ∧ x ∉ q.2.1 ∧ x ∉ q.2.2.2) ∧ (x ∈ q.2.2.2 → x ∉ q.1 ∧ x ∉ q.2.1 ∧ x ∉ q.2.2.1) := by
  have h0 : q.1.count x + q.2.1.count x + q.2.2.1.count x + q.2.2.2.count x ≤ 1 := h x
  have e : ∀ l : List Int32, x ∈ l ↔ 0 < l.count x := fun l => List.count_pos_iff.symm
  simp only [e]
  omega
theorem whr_iff {q : Q4} (h : Nd q) (x : Int32) : (whr q x = 1 ↔ x ∈ q.1) ∧ (whr q x = 2 ↔ x ∈ q.2.1) ∧ (whr q x = 3 ↔ x ∈ q.2.2.1) ∧ (whr q x = 4 ↔ x ∈ q.2.2.2) := by
  obtain ⟨n1, n2, n3, n4⟩ := nd_parts h x
  rcases whr_cases q x with ⟨w, m1, m2, m3, m4⟩ | ⟨w, m⟩ | ⟨w, -, m⟩ | ⟨w, -, -, m⟩ | ⟨w, -, -, -, m⟩ <;> rw [w]
  · simp [m1, m2, m3, m4]
  · have := n1 m; simp [m, this]
  · have := n2 m; simp [m, this]
  · have := n3 m; simp [m, this]
  · have := n4 m; simp [m, this]
theorem whr_row {q : Q4} (h : Nd q) {k : Nat} (h1 : 1 ≤ k) (h4 : k ≤ 4) (x : Int32) : whr q x = k ↔ x ∈ rowQ q k := by
  obtain ⟨a, b, c, d⟩ := whr_iff h x
  rcases (show k = 1 ∨ k = 2 ∨ k = 3 ∨ k = 4 by omega) with rfl | rfl | rfl | rfl
  · exact a
  · exact b
  · exact c
  · exact d
theorem whr_z {q : Q4} (x : Int32) : whr q x = 0 ↔ x ∉ q.1 ∧ x ∉ q.2.1 ∧ x ∉ q.2.2.1 ∧ x ∉ q.2.2.2 := by
  rcases whr_cases q x with ⟨w, m1, m2, m3, m4⟩ | ⟨w, m⟩ | ⟨w, -, m⟩ | ⟨w, -, -, m⟩ | ⟨w, -, -, -, m⟩ <;> rw [w] <;> simp_all
theorem nd_row {q : Q4} (h : Nd q) : q.1.Nodup ∧ q.2.1.Nodup ∧ q.2.2.1.Nodup ∧ q.2.2.2.Nodup := by
  have h0 : ∀ x, q.1.count x + q.2.1.count x + q.2.2.1.count x + q.2.2.2.count x ≤ 1 := h
  refine ⟨?_, ?_, ?_, ?_⟩ <;> exact List.nodup_iff_count.mpr (fun x => by have := h0 x; omega)
/-- how many are in a row -/
theorem many_eq {fa fb : Nat → Int32} {ck : Nat} {q : Q4} (h : SQ fa fb ck q) {k : Nat} (h1 : 1 ≤ k) (h4 : k ≤ 4) : sumN (fun i => it (fa i = nI k)) 30 = (rowQ q k).length := by
  obtain ⟨S, e1, -, ⟨s1, s2, s3, s4⟩, ⟨o1, o2, o3, o4⟩, hd⟩ := h
  obtain ⟨d1, d2, d3, d4⟩ := nd_row hd
  have hh : ∀ l : List Int32, l = rowQ q k → allOk l → l.Nodup → sumN (fun i => it (fa i = nI k)) 30 = (rowQ q k).length := fun l el ho hnd => by
    have e := sum_mem (p := fun _ => True) ho hnd
    rw [← el]
    refine (sumN_congr (fun i hi => it_congr ?_)).trans (e.trans (by simp))
    rw [e1 i hi, nI_eq (by have := whr_le q (nI i); omega) (by omega), whr_row hd h1 h4, ← el]
    simp
  rcases (show k = 1 ∨ k = 2 ∨ k = 3 ∨ k = 4 by omega) with rfl | rfl | rfl | rfl
  · exact hh q.1 rfl o1 d1
  · exact hh q.2.1 rfl o2 d2
  · exact hh q.2.2.1 rfl o3 d3
  · exact hh q.2.2.2 rfl o4 d4
/-- the last one of a row -/
theorem last_eq {fa fb : Nat → Int32} {ck : Nat} {q : Q4} (h : SQ fa fb ck q) (hck : ck < 2 ^ 31) {k : Nat} (h1 : 1 ≤ k) (h4 : k ≤ 4) (h0 : 0 < (rowQ q k).length) : lsf (fun i => decide (fa i = nI k)) fb 30 = lst (rowQ q k) := by
  obtain ⟨S, e1, e2, ⟨s1, s2, s3, s4⟩, ⟨o1, o2, o3, o4⟩, hd⟩ := h
  have hc : ∀ j, j < 30 → (decide (fa j = nI k) = true ↔ nI j ∈ rowQ q k) := fun j hj => by
    rw [decide_eq_true_eq, e1 j hj, nI_eq (by have := whr_le q (nI j); omega) (by omega), whr_row hd h1 h4]
  refine lsf_lst hck e2 hc ?_ ?_ h0
  · rcases (show k = 1 ∨ k = 2 ∨ k = 3 ∨ k = 4 by omega) with rfl | rfl | rfl | rfl
    · exact s1
    · exact s2
    · exact s3
    · exact s4
  · rcases (show k = 1 ∨ k = 2 ∨ k = 3 ∨ k = 4 by omega) with rfl | rfl | rfl | rfl
    · exact o1
    · exact o2
    · exact o3
    · exact o4
/-- a jar's place in its row -/
theorem place_eq {fa fb : Nat → Int32} {ck : Nat} {q : Q4} (h : SQ fa fb ck q) (hck : ck < 2 ^ 31) {j : Nat} (hj : j < 30) (h0 : ¬ whr q (nI j) = 0) : sumN (fun i => it (fa i = fa j ∧ fb j < fb i)) 30 = (rowQ q (whr q (nI j))).idxOf (nI j) := by
  obtain ⟨S, e1, e2, ⟨s1, s2, s3, s4⟩, ⟨o1, o2, o3, o4⟩, hd⟩ := h
  obtain ⟨d1, d2, d3, d4⟩ := nd_row hd
  have h4 := whr_le q (nI j)
  have hw := (whr_row hd (k := whr q (nI j)) (by omega) h4 (nI j)).mp rfl
  have hh : ∀ l : List Int32, l = rowQ q (whr q (nI j)) → allOk l → srt S l → sumN (fun i => it (fa i = fa j ∧ fb j < fb i)) 30 = (rowQ q (whr q (nI j))).idxOf (nI j) := fun l el ho hs => by
    have e := sum_mem (p := fun i => S j < S i) ho (srt_nd hs)
    rw [← el]
    refine (sumN_congr (fun i hi => it_congr ?_)).trans (e.trans (srt_idx hs (by rw [el]; exact hw) hj))
    have g1 := e2 i hi
    have g2 := e2 j hj
    rw [e1 i hi, e1 j hj, nI_eq (by have := whr_le q (nI i); omega) (by omega), whr_row hd (by omega) h4, ← el, g1.1, g2.1, nI_ltI (by omega) (by omega)]
  generalize hk : whr q (nI j) = k at hh h0 h4 ⊢
  rcases (show k = 1 ∨ k = 2 ∨ k = 3 ∨ k = 4 by omega) with rfl | rfl | rfl | rfl
  · exact hh q.1 rfl o1 s1
  · exact hh q.2.1 rfl o2 s2
  · exact hh q.2.2.1 rfl o3 s3
  · exact hh q.2.2.2 rfl o4 s4
theorem tplc_row {q : Q4} {x : Int32} (hd : Nd q) (h : ¬ whr q x = 0) : tplc q x = nI ((rowQ q (whr q x)).idxOf x) := by
  obtain ⟨a, b, c, d⟩ := whr_iff hd x
  rcases whr_cases q x with ⟨w, -⟩ | ⟨w, m⟩ | ⟨w, -, m⟩ | ⟨w, -, -, m⟩ | ⟨w, -, -, -, m⟩
  · exact absurd w h
  · rw [tplc1 w, w]; exact pos_idx m
  · rw [tplc2 w, w]; exact pos_idx m
  · rw [tplc3 w, w]; exact pos_idx m
  · rw [tplc4 w, w]; exact pos_idx m
/-! a jar goes, a jar comes -/
def delq (x : Int32) (q : Q4) : Q4 := (q.1.erase x, q.2.1.erase x, q.2.2.1.erase x, q.2.2.2.erase x)
def insq (k : Nat) (x : Int32) (q : Q4) : Q4 := if k = 1 then (x :: q.1, q.2.1, q.2.2.1, q.2.2.2) else if k = 2 then (q.1, x :: q.2.1, q.2.2.1, q.2.2.2) else if k = 3 then (q.1, q.2.1, x :: q.2.2.1, q.2.2.2) else (q.1, q.2.1, q.2.2.1, x :: q.2.2.2)
theorem delq_tot {x a : Int32} {q : Q4} (hd : Nd q) : tot (delq x q) a = if a = x then 0 else tot q a := by
  have h0 : q.1.count a + q.2.1.count a + q.2.2.1.count a + q.2.2.2.count a ≤ 1 := hd a
  show (q.1.erase x).count a + (q.2.1.erase x).count a + (q.2.2.1.erase x).count a + (q.2.2.2.erase x).count a = if a = x then 0 else q.1.count a + q.2.1.count a + q.2.2.1.count a + q.2.2.2.count a
  by_cases e : a = x
  · subst e
    rw [if_pos rfl]
    simp only [List.count_erase_self]
    omega
  · rw [if_neg e]
    simp only [List.count_erase_of_ne e]
theorem delq_nd {x : Int32} {q : Q4} (hd : Nd q) : Nd (delq x q) := fun a => by
  rw [delq_tot hd]
  split
  · exact Nat.zero_le _
  · exact hd a
theorem mem_er {l : List Int32} {x y : Int32} (e : y ≠ x) : y ∈ l.erase x ↔ y ∈ l := List.mem_erase_of_ne e
theorem delq_whr {x : Int32} {q : Q4} (hd : Nd q) (y : Int32) : whr (delq x q) y = if y = x then 0 else whr q y := by
  by_cases e : y = x
  · subst e
    rw [if_pos rfl]
    have h : tot (delq y q) y = 0 := by rw [delq_tot hd, if_pos rfl]
    have h0 : (delq y q).1.count y + (delq y q).2.1.count y + (delq y q).2.2.1.count y + (delq y q).2.2.2.count y = 0 := h
    exact (whr_z y).mpr ⟨List.count_eq_zero.mp (by omega), List.count_eq_zero.mp (by omega), List.count_eq_zero.mp (by omega), List.count_eq_zero.mp (by omega)⟩
  · rw [if_neg e]
    unfold whr delq
    simp only [mem_er e]
theorem er_ok {l : List Int32} {x : Int32} (h : allOk l) : allOk (l.erase x) := fun y hy => h y (List.mem_of_mem_erase hy)
theorem SQ.del {fa fb : Nat → Int32} {ck : Nat} {q : Q4} (h : SQ fa fb ck q) {j : Nat} (hj : j < 30) : SQ (upd fa j (nI 0)) fb ck (delq (nI j) q) := by
  obtain ⟨S, e1, e2, ⟨s1, s2, s3, s4⟩, ⟨o1, o2, o3, o4⟩, hd⟩ := h
  refine ⟨S, fun i hi => ?_, e2, ⟨srt_sub s1 List.erase_sublist, srt_sub s2 List.erase_sublist, srt_sub s3 List.erase_sublist, srt_sub s4 List.erase_sublist⟩, ⟨er_ok o1, er_ok o2, er_ok o3, er_ok o4⟩, delq_nd hd⟩
  rw [delq_whr hd]
  by_cases c : i = j
  · rw [c, if_pos rfl]; exact pk_us
  · rw [if_neg (fun z => c ((nI_eq (by omega) (by omega)).mp z)), pk_un c]
    exact e1 i hi
theorem insq_tot {k : Nat} {x a : Int32} {q : Q4} : tot (insq k x q) a = tot q a + it (x = a) := by
  unfold insq tot
  split
  · simp only [cnt_cons]; omega
  · split
    · simp only [cnt_cons]; omega
    · split
      · simp only [cnt_cons]; omega
      · simp only [cnt_cons]; omega
theorem z_tot {q : Q4} {x : Int32} (h : whr q x = 0) : tot q x = 0 := by
  obtain ⟨h1, h2, h3, h4⟩ := (whr_z x).mp h
  unfold tot
  rw [List.count_eq_zero.mpr h1, List.count_eq_zero.mpr h2, List.count_eq_zero.mpr h3, List.count_eq_zero.mpr h4]
theorem insq_nd {k : Nat} {x : Int32} {q : Q4} (hd : Nd q) (h : whr q x = 0) : Nd (insq k x q) := fun a => by
  rw [insq_tot]
  by_cases e : x = a
  · subst e
    rw [z_tot h, it_t rfl]; omega
  · rw [it_f e]; exact hd a
theorem insq_whr {k : Nat} {x : Int32} {q : Q4} (h1 : 1 ≤ k) (h4 : k ≤ 4) (h : whr q x = 0) (y : Int32) : whr (insq k x q) y = if y = x then k else whr q y := by
  by_cases e : y = x
  · subst e
    rw [if_pos rfl]
    obtain ⟨m1, m2, m3, m4⟩ := (whr_z y).mp h
    rcases (show k = 1 ∨ k = 2 ∨ k = 3 ∨ k = 4 by omega) with rfl | rfl | rfl | rfl
    · unfold whr insq; simp
    · unfold whr insq; simp [m1]
    · unfold whr insq; simp [m1, m2]
    · unfold whr insq; simp [m1, m2, m3]
  · rw [if_neg e]
    rcases (show k = 1 ∨ k = 2 ∨ k = 3 ∨ k = 4 by omega) with rfl | rfl | rfl | rfl <;> (unfold whr insq; simp [e])
theorem SQ.ins {fa fb : Nat → Int32} {ck : Nat} {q : Q4} (h : SQ fa fb ck q) {j k : Nat} (hj : j < 30) (h1 : 1 ≤ k) (h4 : k ≤ 4) (h0 : whr q (nI j) = 0) : SQ (upd fa j (nI k)) (upd fb j (nI (ck + 1))) (ck + 1) (insq k (nI j) q) := by
  obtain ⟨S, e1, e2, ⟨s1, s2, s3, s4⟩, ⟨o1, o2, o3, o4⟩, hd⟩ := h
  obtain ⟨m1, m2, m3, m4⟩ := (whr_z (nI j)).mp h0
  have hjo : jarOk (nI j) := ⟨j, hj, rfl⟩
  have hS : ∀ i : Nat, i < 30 → i ≠ j → (if i = j then ck + 1 else S i) = S i := fun i _ e => if_neg e
  have hT : ∀ l : List Int32, allOk l → nI j ∉ l → srt S l → srt (fun i => if i = j then ck + 1 else S i) l := fun l ho hm hs => srt_congr hs (fun x hx => by
    obtain ⟨i, hi, rfl⟩ := ho x hx
    rw [ix_nI hi]
    exact if_neg (fun (z : i = j) => hm (z ▸ hx)))
  have hC : ∀ l : List Int32, allOk l → nI j ∉ l → srt S l → srt (fun i => if i = j then ck + 1 else S i) (nI j :: l) := fun l ho hm hs => srt_cons (hT l ho hm hs) (fun x hx => by
    obtain ⟨i, hi, rfl⟩ := ho x hx
    rw [ix_nI hi, ix_nI hj]
    have e : i ≠ j := fun z => hm (z ▸ hx)
    have := (e2 i hi).2
    simp only [if_neg e, if_true]
    omega)
  refine ⟨fun i => if i = j then ck + 1 else S i, fun i hi => ?_, fun i hi => ?_, ?_, ?_, insq_nd hd h0⟩
  · rw [insq_whr h1 h4 h0]
    by_cases c : i = j
    · rw [c, if_pos rfl]; exact pk_us
    · rw [if_neg (fun z => c ((nI_eq (by omega) (by omega)).mp z)), pk_un c]
      exact e1 i hi
  · by_cases c : i = j
    · rw [c]; simp only [if_true]; exact ⟨pk_us, Nat.le_refl _⟩
    · simp only [if_neg c]; rw [pk_un c]; exact ⟨(e2 i hi).1, Nat.le_succ_of_le (e2 i hi).2⟩
  · rcases (show k = 1 ∨ k = 2 ∨ k = 3 ∨ k = 4 by omega) with rfl | rfl | rfl | rfl
    · exact ⟨hC _ o1 m1 s1, hT _ o2 m2 s2, hT _ o3 m3 s3, hT _ o4 m4 s4⟩
    · exact ⟨hT _ o1 m1 s1, hC _ o2 m2 s2, hT _ o3 m3 s3, hT _ o4 m4 s4⟩
    · exact ⟨hT _ o1 m1 s1, hT _ o2 m2 s2, hC _ o3 m3 s3, hT _ o4 m4 s4⟩
    · exact ⟨hT _ o1 m1 s1, hT _ o2 m2 s2, hT _ o3 m3 s3, hC _ o4 m4 s4⟩
  · rcases (show k = 1 ∨ k = 2 ∨ k = 3 ∨ k = 4 by omega) with rfl | rfl | rfl | rfl
    · exact ⟨ok_cons hjo o1, o2, o3, o4⟩
    · exact ⟨o1, ok_cons hjo o2, o3, o4⟩
    · exact ⟨o1, o2, ok_cons hjo o3, o4⟩
    · exact ⟨o1, o2, o3, ok_cons hjo o4⟩
theorem upd_upd {f : Nat → Int32} {k : Nat} {x y : Int32} : upd (upd f k x) k y = upd f k y := by
  funext i
  unfold upd
  by_cases c : i = k <;> simp [c]
/-- put -/
theorem SQ.put {fa fb : Nat → Int32} {ck : Nat} {q : Q4} (h : SQ fa fb ck q) {j k : Nat} (hj : j < 30) (h1 : 1 ≤ k) (h4 : k ≤ 4) : SQ (upd fa j (nI k)) (upd fb j (nI (ck + 1))) (ck + 1) (insq k (nI j) (delq (nI j) q)) := by
  have h2 := (h.del hj).ins hj h1 h4 (by rw [delq_whr h.nd, if_pos rfl])
  rw [upd_upd] at h2
  exact h2
theorem er_no {l : List Int32} {x : Int32} (h : x ∉ l) : l.erase x = l := List.erase_of_not_mem h
theorem er_lst {l : List Int32} (hd : l.Nodup) (h0 : 0 < l.length) : l.erase (lst l) = l.dropLast := by
  have e := dl_lst h0
  have hm : lst l ∉ l.dropLast := fun z => by
    have h1 := List.nodup_iff_count.mp hd (lst l)
    have h2 := cnt_dl (a := lst l) h0
    rw [it_t rfl] at h2
    have h3 := List.count_pos_iff.mpr z
    omega
  have h5 : (l.dropLast ++ [lst l]).erase (lst l) = l.dropLast := by
    rw [List.erase_append_right _ hm]
    simp
  exact (congrArg (fun z => z.erase (lst l)) e).trans h5
theorem del_lst {q : Q4} (hd : Nd q) : (0 < q.1.length → delq (lst q.1) q = (q.1.dropLast, q.2.1, q.2.2.1, q.2.2.2)) ∧ (0 < q.2.1.length → delq (lst q.2.1) q = (q.1, q.2.1.dropLast, q.2.2.1, q.2.2.2)) ∧ (0 < q.2.2.1.length → delq (lst q.2.2.1) q = (q.1, q.2.1, q.2.2.1.dropLast, q.2.2.2)) ∧ (0 < q.2.2.2.length → delq (lst q.2.2.2) q = (q.1, q.2.1, q.2.2.1, q.2.2.2.dropLast)) := by
  obtain ⟨d1, d2, d3, d4⟩ := nd_row hd
  refine ⟨fun h => ?_, fun h => ?_, fun h => ?_, fun h => ?_⟩
  · obtain ⟨n1, n2, n3⟩ := (nd_parts hd _).1 (lst_mem h)
    unfold delq; rw [er_lst d1 h, er_no n1, er_no n2, er_no n3]
  · obtain ⟨n1, n2, n3⟩ := (nd_parts hd _).2.1 (lst_mem h)
    unfold delq; rw [er_lst d2 h, er_no n1, er_no n2, er_no n3]
  · obtain ⟨n1, n2, n3⟩ := (nd_parts hd _).2.2.1 (lst_mem h)
    unfold delq; rw [er_lst d3 h, er_no n1, er_no n2, er_no n3]
  · obtain ⟨n1, n2, n3⟩ := (nd_parts hd _).2.2.2 (lst_mem h)
    unfold delq; rw [er_lst d4 h, er_no n1, er_no n2, er_no n3]
/-- the asked jar comes, at last -/
theorem room_nd {c b : Nat} {ff : Bool} {q : Q4} (hn : Num c b q) (hd : Nd q) : Nd (sRoom c b ff q) := fun a => by
  rw [room_tot hn]; exact hd a
theorem new_nd {c b : Nat} {q : Q4} (hn : Num c b q) (hd : Nd q) : Nd (sNew c b q) := fun a => Nat.le_trans (new_tot hn a) (hd a)
theorem new_z {c b : Nat} {q : Q4} {x : Int32} (hn : Num c b q) (h : whr q x = 0) : whr (sNew c b q) x = 0 := by
  have h1 := new_tot hn x
  rw [z_tot h] at h1
  have h0 : (sNew c b q).1.count x + (sNew c b q).2.1.count x + (sNew c b q).2.2.1.count x + (sNew c b q).2.2.2.count x ≤ 0 := h1
  exact (whr_z x).mpr ⟨List.count_eq_zero.mp (by omega), List.count_eq_zero.mp (by omega), List.count_eq_zero.mp (by omega), List.count_eq_zero.mp (by omega)⟩
theorem delq_z {q : Q4} {x : Int32} (h : whr q x = 0) : delq x q = q := by
  obtain ⟨h1, h2, h3, h4⟩ := (whr_z x).mp h
  unfold delq; rw [er_no h1, er_no h2, er_no h3, er_no h4]
theorem put0 {c b : Nat} {q : Q4} {x : Int32} (hn : Num c b q) (w : whr q x = 0) : insq 1 x (delq x (sNew c b q)) = sServe c b q x := by
  rw [(serve0 w).1, delq_z (new_z hn w)]; rfl
theorem put1 {c b : Nat} {q : Q4} {x : Int32} (hd : Nd q) (w : whr q x = 1) : insq 2 x (delq x q) = sServe c b q x := by
  obtain ⟨n1, n2, n3⟩ := (nd_parts hd x).1 ((whr_iff hd x).1.mp w)
  rw [(serve1 w).1]
  unfold insq delq
  rw [er_no n1, er_no n2, er_no n3, rmv_erase]; rfl
theorem put2 {c b : Nat} {q : Q4} {x : Int32} (hd : Nd q) (w : whr q x = 2) : insq 2 x (delq x q) = sServe c b q x := by
  obtain ⟨n1, n2, n3⟩ := (nd_parts hd x).2.1 ((whr_iff hd x).2.1.mp w)
  rw [(serve2 w).1]
  unfold insq delq
  rw [er_no n1, er_no n2, er_no n3, rmv_erase]; rfl
theorem put3 {c b : Nat} {q : Q4} {x : Int32} (hn : Num c b q) (hd : Nd q) (w : whr q x = 3) : insq 2 x (delq x (sRoom c (sBord c b q x) false q)) = sServe c b q x := by
  have hn2 := bord_num (x := x) hn
  have m := room_mem3 (ff := false) hn2 ((whr_iff hd x).2.2.1.mp w)
  obtain ⟨n1, n2, n3⟩ := (nd_parts (room_nd (ff := false) hn2 hd) x).2.2.1 m
  rw [(serve3 w).2.1]
  unfold insq delq
  rw [er_no n1, er_no n2, er_no n3, rmv_erase]; rfl
theorem put4 {c b : Nat} {q : Q4} {x : Int32} (hn : Num c b q) (hd : Nd q) (w : whr q x = 4) : insq 2 x (delq x (sRoom c (sBord c b q x) true q)) = sServe c b q x := by
  have hn2 := bord_num (x := x) hn
  have m := room_mem4 (ff := true) hn2 ((whr_iff hd x).2.2.2.mp w)
  obtain ⟨n1, n2, n3⟩ := (nd_parts (room_nd (ff := true) hn2 hd) x).2.2.2 m
  rw [(serve4 w).2.1]
  unfold insq delq
  rw [er_no n1, er_no n2, er_no n3, rmv_erase]; rfl
/-! the plain row -/
theorem SP.cnt {fp : Nat → Int32} {ck : Nat} {P : List Int32} (h : SP fp ck P) (hck : ck < 2 ^ 31) : sumN (fun i => it (¬ fp i = 0)) 30 = P.length := by
  obtain ⟨S, e1, e2, hs, ho⟩ := h
  have e := sum_mem (p := fun _ => True) ho (srt_nd hs)
  refine (sumN_congr (fun i hi => it_congr ?_)).trans (e.trans (by simp))
  have g := e1 i hi
  rw [← e2 i hi, g.1, show (0 : Int32) = nI 0 from rfl, nI_eq (by omega) (by omega)]
  simp only [and_true]
  omega
theorem SP.in_ {fp : Nat → Int32} {ck : Nat} {P : List Int32} (h : SP fp ck P) (hck : ck < 2 ^ 31) {j : Nat} (hj : j < 30) : ∃ t : Nat, t ≤ ck ∧ fp j = nI t ∧ (0 < t ↔ nI j ∈ P) := by
  obtain ⟨S, e1, e2, hs, ho⟩ := h
  exact ⟨S j, (e1 j hj).2, (e1 j hj).1, e2 j hj⟩
theorem SP.last {fp : Nat → Int32} {ck : Nat} {P : List Int32} (h : SP fp ck P) (hck : ck < 2 ^ 31) (h0 : 0 < P.length) : lsf (fun i => decide (¬ fp i = 0)) fp 30 = lst P := by
  obtain ⟨S, e1, e2, hs, ho⟩ := h
  refine lsf_lst hck e1 (fun j hj => ?_) hs ho h0
  have g := e1 j hj
  rw [← e2 j hj, decide_eq_true_eq, g.1, show (0 : Int32) = nI 0 from rfl, nI_eq (by omega) (by omega)]
  omega
theorem SP.place {fp : Nat → Int32} {ck : Nat} {P : List Int32} (h : SP fp ck P) (hck : ck < 2 ^ 31) {j : Nat} (hj : j < 30) (hm : nI j ∈ P) : sumN (fun i => it (fp j < fp i)) 30 = P.idxOf (nI j) := by
  obtain ⟨S, e1, e2, hs, ho⟩ := h
  have e := sum_mem (p := fun i => S j < S i) ho (srt_nd hs)
  refine (sumN_congr (fun i hi => it_congr ?_)).trans (e.trans (srt_idx hs hm hj))
  have g1 := e1 i hi
  have g2 := e1 j hj
  rw [← e2 i hi, g1.1, g2.1, nI_ltI (by omega) (by omega)]
  omega
/-- one goes -/
theorem SP.del {fp : Nat → Int32} {ck : Nat} {P : List Int32} (h : SP fp ck P) {j : Nat} (hj : j < 30) : SP (upd fp j (nI 0)) ck (P.erase (nI j)) := by
  obtain ⟨S, e1, e2, hs, ho⟩ := h
  refine ⟨fun i => if i = j then 0 else S i, fun i hi => ?_, fun i hi => ?_, ?_, er_ok ho⟩
  · by_cases c : i = j
    · rw [c]; simp only [if_true]; exact ⟨pk_us, Nat.zero_le _⟩
    · simp only [if_neg c]; rw [pk_un c]; exact e1 i hi
  · by_cases c : i = j
    · rw [c]; simp only [if_true]
      exact ⟨fun z => absurd z (Nat.lt_irrefl 0), fun z => absurd z (fun z => (List.Nodup.not_mem_erase (srt_nd hs)) z)⟩
    · simp only [if_neg c]
      rw [e2 i hi, mem_er (fun z => c ((nI_eq (by omega) (by omega)).mp z))]
  · refine srt_congr (srt_sub hs List.erase_sublist) (fun x hx => ?_)
    obtain ⟨i, hi, rfl⟩ := ho x (List.mem_of_mem_erase hx)
    rw [ix_nI hi]
    refine if_neg (fun z => ?_)
    subst z
    exact (List.Nodup.not_mem_erase (srt_nd hs)) hx
/-- one comes -/
theorem SP.ins {fp : Nat → Int32} {ck : Nat} {P : List Int32} (h : SP fp ck P) {j : Nat} (hj : j < 30) : SP (upd fp j (nI (ck + 1))) (ck + 1) (nI j :: P.erase (nI j)) := by
  obtain ⟨S, e1, e2, hs, ho⟩ := h.del hj
  have hnj : nI j ∉ P.erase (nI j) := by
    obtain ⟨S, e1, e2, hs, ho⟩ := h
    exact List.Nodup.not_mem_erase (srt_nd hs)
  have e1' : ∀ i, i < 30 → i ≠ j → fp i = nI (S i) ∧ S i ≤ ck := fun i hi c => by
    have := e1 i hi
    rw [pk_un c] at this
    exact this
  refine ⟨fun i => if i = j then ck + 1 else S i, fun i hi => ?_, fun i hi => ?_, ?_, ok_cons ⟨j, hj, rfl⟩ ho⟩
  · by_cases c : i = j
    · rw [c]; simp only [if_true]; exact ⟨pk_us, Nat.le_refl _⟩
    · simp only [if_neg c]; rw [pk_un c]; exact ⟨(e1' i hi c).1, Nat.le_succ_of_le (e1' i hi c).2⟩
  · by_cases c : i = j
    · rw [c]; simp only [if_true]
      exact ⟨fun _ => List.mem_cons_self, fun _ => Nat.succ_pos _⟩
    · simp only [if_neg c]
      rw [e2 i hi, List.mem_cons]
      exact ⟨Or.inr, fun z => z.elim (fun z => absurd ((nI_eq (by omega) (by omega)).mp z) c) id⟩
  · have hT : ∀ x, x ∈ P.erase (nI j) → (fun i => if i = j then ck + 1 else S i) (ix x) = S (ix x) ∧ S (ix x) ≤ ck := fun x hx => by
      obtain ⟨i, hi, rfl⟩ := ho x hx
      have c : i ≠ j := fun z => hnj (z ▸ hx)
      rw [ix_nI hi]
      exact ⟨if_neg c, (e1' i hi c).2⟩
    refine srt_cons (srt_congr hs (fun x hx => (hT x hx).1)) (fun x hx => ?_)
    have h1 := hT x hx
    have h2 : (if ix x = j then ck + 1 else S (ix x)) = S (ix x) := h1.1
    show (if ix x = j then ck + 1 else S (ix x)) < (if ix (nI j) = j then ck + 1 else S (ix (nI j)))
    rw [h2, ix_nI hj, if_pos rfl]
    exact Nat.lt_succ_of_le h1.2
theorem SP.nd {fp : Nat → Int32} {ck : Nat} {P : List Int32} (h : SP fp ck P) : P.Nodup := by
  obtain ⟨S, e1, e2, hs, ho⟩ := h
  exact srt_nd hs
theorem SP.ok {fp : Nat → Int32} {ck : Nat} {P : List Int32} (h : SP fp ck P) : allOk P := by
  obtain ⟨S, e1, e2, hs, ho⟩ := h
  exact ho
theorem SP.nil {ck : Nat} : SP (fun _ => 0) ck [] := ⟨fun _ => 0, fun _ _ => ⟨rfl, Nat.zero_le _⟩, fun _ _ => ⟨fun z => absurd z (Nat.lt_irrefl 0), fun z => by simp at z⟩, srt_nil, ok_nil⟩
theorem SP.in2 {fp : Nat → Int32} {ck : Nat} {P : List Int32} {c : Nat} (h : SP fp ck P) {j : Nat} (hj : j < 30) (hm : nI j ∈ P) : SP (upd fp j (nI (ck + 1))) (ck + 1) (sPl c P (nI j)) := by
  have := h.ins hj
  rw [← rmv_erase] at this
  unfold sPl; rw [if_pos hm]; exact this
theorem SP.new2 {fp : Nat → Int32} {ck : Nat} {P : List Int32} {c : Nat} (h : SP fp ck P) {j : Nat} (hj : j < 30) (hm : nI j ∉ P) (hl : ¬ c ≤ P.length) : SP (upd fp j (nI (ck + 1))) (ck + 1) (sPl c P (nI j)) := by
  have := h.ins hj
  rw [er_no hm] at this
  unfold sPl; rw [if_neg hm, if_neg hl]; exact this
theorem SP.full2 {fp : Nat → Int32} {ck : Nat} {P : List Int32} {c k : Nat} (h : SP fp ck P) {j : Nat} (hj : j < 30) (hm : nI j ∉ P) (hl : c ≤ P.length) (h0 : 0 < P.length) (hk : k < 30) (ek : nI k = lst P) : SP (upd (upd fp k (nI 0)) j (nI (ck + 1))) (ck + 1) (sPl c P (nI j)) := by
  have h1 := h.del hk
  rw [ek, er_lst h.nd h0] at h1
  have := h1.ins hj
  rw [er_no (fun z => hm ((List.dropLast_sublist P).subset z))] at this
  unfold sPl; rw [if_neg hm, if_pos hl]; exact this
theorem SQ.nil {fb : Nat → Int32} {ck : Nat} {S : Nat → Nat} (h : ∀ j, j < 30 → fb j = nI (S j) ∧ S j ≤ ck) : SQ (fun _ => 0) fb ck (([], [], [], []) : Q4) := ⟨S, fun _ _ => rfl, h, ⟨srt_nil, srt_nil, srt_nil, srt_nil⟩, ⟨ok_nil, ok_nil, ok_nil, ok_nil⟩, nd_nil⟩
theorem SQ.emp {fa fb : Nat → Int32} {ck : Nat} {q : Q4} (h : SQ fa fb ck q) : SQ (fun _ => 0) fb ck (([], [], [], []) : Q4) := by
  obtain ⟨S, e1, e2, -⟩ := h
  exact SQ.nil e2
theorem SQ.z {ck : Nat} : SQ (fun _ => 0) (fun _ => 0) ck (([], [], [], []) : Q4) := SQ.nil (S := fun _ => 0) (fun _ _ => ⟨rfl, Nat.zero_le _⟩)
