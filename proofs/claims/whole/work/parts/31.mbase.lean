/-! the reference's arrays: 0 sizes, 1 numbers, 2 asks, 3 hits, 4 .. 10 its rows 0 .. 6 -/
def dat (a0 a1 a2 a3 a4 a5 a6 a7 a8 a9 a10 : Nat → Int32) : Nat → Nat → Int32 := fun i => match i with
  | 0 => a0
  | 1 => a1
  | 2 => a2
  | 3 => a3
  | 4 => a4
  | 5 => a5
  | 6 => a6
  | 7 => a7
  | 8 => a8
  | 9 => a9
  | _ => a10
def RW (l : List Nat) : Nat → Option Nat := fun i => l[i]?
def MOK (D : Nat → Nat → Int32) (c : Nat) (M : List Int32) (s : St) : Prop :=
  Rw (D 5) s.1.1 ∧ Rw (D 6) s.1.2.1 ∧ Rw (D 7) s.1.2.2.1 ∧ Rw (D 8) s.1.2.2.2 ∧ Rw (D 9) s.2.1 ∧ Rw (D 10) M ∧
  D 0 1 = nI s.1.1.length ∧ D 0 2 = nI s.1.2.1.length ∧ D 0 3 = nI s.1.2.2.1.length ∧ D 0 4 = nI s.1.2.2.2.length ∧ D 0 5 = nI s.2.1.length ∧ D 0 6 = nI M.length ∧
  D 1 0 = nI c ∧ D 1 1 = nI s.2.2.1 ∧ D 1 2 = s.2.2.2.1 ∧ D 1 3 = s.2.2.2.2.1 ∧ D 1 4 = s.2.2.2.2.2.1 ∧ D 1 5 = s.2.2.2.2.2.2.1 ∧
  agr 30 (D 2) s.2.2.2.2.2.2.2.1 ∧ agr 30 (D 3) s.2.2.2.2.2.2.2.2
theorem dec_t {b : Bool} (h : b = true) : nI 1 = nI b.toNat := by rw [h]; rfl
theorem dec_f {b : Bool} (h : b = false) : nI 0 = nI b.toNat := by rw [h]; rfl
theorem Rw_erase2 {f : Nat → Int32} {l : List Int32} {i : Nat} (h : Rw f l) (hi : i < l.length) : Rw (va_cpy f f (i + 1) i (l.length - 1 - i)) (l.eraseIdx i) := by
  have e : l.length - 1 - i = l.length - i - 1 := by omega
  rw [e]
  exact Rw_erase h hi
theorem shift_min {c b s : Nat} (h : b ≤ c) (hc : c < 2 ^ 30) (hs : s < 2 ^ 30) : (if nI 0 < (if nI b + -nI s < nI c then nI b + -nI s else nI c) then (if nI b + -nI s < nI c then nI b + -nI s else nI c) else nI 0) = nI (b - s) := by
  have e : nI b + -nI s = nI b - nI s := (Int32.sub_eq_add_neg _ _).symm
  rw [e]
  have h1 : (nI b - nI s).toInt = (b : Int) - s := pk_sub_toInt (by omega) hs
  have h2 : (nI c).toInt = c := nI_toInt (by omega)
  by_cases h3 : nI b - nI s < nI c
  · rw [if_pos h3]
    exact max_sub (by omega) hs
  · have h4 : ¬ (nI b - nI s).toInt < (nI c).toInt := fun z => h3 (Int32.lt_iff_toInt_lt.mpr z)
    rw [if_neg h3]
    have h5 : b - s = c := by omega
    rw [h5]
    by_cases h6 : 0 < c
    · rw [if_pos ((nI_ltI (by decide) (by omega)).mpr h6)]
    · have h7 : c = 0 := by omega
      rw [h7, ite_self]
