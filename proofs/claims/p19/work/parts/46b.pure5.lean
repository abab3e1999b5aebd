/-! who would leave, as the reference tells it: of the jars that were there the last that isn't there behind the asking -/
def tlS (q : Q4) (d x : Int32) : Int32 := if whr q x = 1 ∨ whr q x = 2 then d else x
def tl (q : Q4) (l : List Int32) (d : Int32) : Int32 := l.foldl (tlS q) d
theorem tl_0 {q : Q4} {l : List Int32} {d : Int32} : tl q (l.take 0) d = d := by simp [tl]
theorem tl_snoc {q : Q4} {l : List Int32} {k : Nat} {d : Int32} (h : k < l.length) : tl q (l.take (k + 1)) d = tlS q (tl q (l.take k) d) (l.getD k 0) := by
  rw [take_snoc h]
  unfold tl
  rw [List.foldl_append]
  rfl
theorem tl_y {q : Q4} {l : List Int32} {k : Nat} {d : Int32} (h : k < l.length) (hh : whr q (l.getD k 0) = 1 ∨ whr q (l.getD k 0) = 2) : tl q (l.take (k + 1)) d = tl q (l.take k) d := by
  rw [tl_snoc h]
  exact if_pos hh
theorem tl_n {q : Q4} {l : List Int32} {k : Nat} {d : Int32} (h : k < l.length) (hh : ¬ (whr q (l.getD k 0) = 1 ∨ whr q (l.getD k 0) = 2)) : tl q (l.take (k + 1)) d = l.getD k 0 := by
  rw [tl_snoc h]
  exact if_neg hh
theorem in12 {w : Nat} (h : w = 1 ∨ w = 2) : nI 1 ≤ nI w ∧ nI w ≤ nI 2 := by
  rcases h with rfl | rfl <;> exact ⟨by decide +kernel, by decide +kernel⟩
theorem out12 {w : Nat} (hw : w ≤ 4) (h : ¬ (w = 1 ∨ w = 2)) : ¬ (nI 1 ≤ nI w ∧ nI w ≤ nI 2) := by
  rcases (show w = 0 ∨ w = 3 ∨ w = 4 by omega) with rfl | rfl | rfl <;> decide +kernel
