theorem cp_at {f g : Nat → Int32} {n i : Nat} (h : i < n) : va_cpy f g 0 0 n i = f i := by
  unfold va_cpy
  rw [if_pos (by omega)]
  simp
theorem Rw_cp {f g : Nat → Int32} {l : List Int32} {n : Nat} (h : Rw f l) (hl : l.length ≤ n) : Rw (va_cpy f g 0 0 n) l := fun i hi => (cp_at (by omega)).trans (h i hi)
theorem agr_cp {f g k : Nat → Int32} {n : Nat} (h : agr n f k) : agr n (va_cpy f g 0 0 n) k := fun i hi => (cp_at hi).trans (h i hi)
