theorem xo_out {x : Int32} (h : ¬ (nI 1 ≤ x ∧ x ≤ nI 6)) : x.toInt < 1 ∨ 4 < x.toInt := by
  have h1 : (nI 1).toInt = 1 := nI_toInt (by decide)
  have h6 : (nI 6).toInt = 6 := nI_toInt (by decide)
  rcases Int.lt_or_le x.toInt 1 with z | z
  · exact Or.inl z
  · refine Or.inr ?_
    rcases Int.lt_or_le 4 x.toInt with z2 | z2
    · exact z2
    · exact absurd ⟨Int32.le_iff_toInt_le.mpr (by omega), Int32.le_iff_toInt_le.mpr (by omega)⟩ h
theorem tnz_t {b : Bool} (h : ¬ b.toNat = 0) : b = true := by cases b <;> simp_all
theorem tnz_f {b : Bool} (h : b.toNat = 0) : b = false := by cases b <;> simp_all
theorem ask_eq {c b : Nat} {q : Q4} {x : Int32} {P : List Int32} {a h p m : Int32} {K T : Nat → Int32} {hb pb : Bool} (h1 : hit q x = hb) (h2 : decide (x ∈ P) = pb) : askS c x (q, P, b, a, h, p, m, K, T) = (sServe c b q x, sPl c P x, sBord c b q x, a + 1, h + nI hb.toNat, p + nI pb.toNat, m + nI (dist b (sBord c b q x)), upd K (ix x) (K (ix x) + 1), if hb then upd T (ix x) (T (ix x) + 1) else T) := by
  subst h1
  subst h2
  rfl
