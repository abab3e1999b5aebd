theorem room_a {c b : Nat} {ff : Bool} {L1 L2 L3 L4 : List Int32} (h : L1.length + L2.length < c) (x : Int32) : (((L1, L2, L3, L4), x) : Q4 × Int32) = (sRoom c b ff (L1, L2, L3, L4), sRoomX c b ff (L1, L2, L3, L4) x) := by
  unfold sRoom sRoomX
  rw [if_pos h, if_pos h]
theorem room_b {c b : Nat} {ff : Bool} {L1 L2 L3 L4 : List Int32} (h : ¬ L1.length + L2.length < c) (h0 : 0 < L1.length) (ho : (b < L1.length ∨ (L1.length = b ∧ ff = true)) ∨ L2.length = 0) (x : Int32) : (((L1.dropLast, L2, lst L1 :: L3, L4), lst L1) : Q4 × Int32) = (sRoom c b ff (L1, L2, L3, L4), sRoomX c b ff (L1, L2, L3, L4) x) := by
  have hv : sOver b ff (L1, L2, L3, L4) := ⟨h0, ho⟩
  unfold sRoom sRoomX
  rw [if_neg h, if_neg h, if_pos hv, if_pos hv]
theorem room_c {c b : Nat} {ff : Bool} {L1 L2 L3 L4 : List Int32} (h : ¬ L1.length + L2.length < c) (ho : ¬ (0 < L1.length ∧ ((b < L1.length ∨ (L1.length = b ∧ ff = true)) ∨ L2.length = 0))) (x : Int32) : (((L1, L2.dropLast, L3, lst L2 :: L4), lst L2) : Q4 × Int32) = (sRoom c b ff (L1, L2, L3, L4), sRoomX c b ff (L1, L2, L3, L4) x) := by
  have hv : ¬ sOver b ff (L1, L2, L3, L4) := ho
  unfold sRoom sRoomX
  rw [if_neg h, if_neg h, if_neg hv, if_neg hv]
theorem ff_f {ff : Bool} (h : ff.toNat = 0) : ff = false := by cases ff <;> simp_all
theorem ff_t {ff : Bool} (h : ¬ ff.toNat = 0) : ff = true := by cases ff <;> simp_all
theorem serve0 {c b : Nat} {q : Q4} {x : Int32} (w : whr q x = 0) : sServe c b q x = (x :: (sNew c b q).1, (sNew c b q).2) ∧ sBord c b q x = b ∧ sServeX c b q x = sNewX c b q (-1) := by
  refine ⟨?_, ?_, ?_⟩
  · unfold sServe; rw [if_pos w]
  · unfold sBord; rw [if_neg (by omega), if_neg (by omega)]
  · unfold sServeX; rw [if_pos w]
theorem serve1 {c b : Nat} {q : Q4} {x : Int32} (w : whr q x = 1) : sServe c b q x = (rmv q.1 x, x :: q.2.1, q.2.2) ∧ sBord c b q x = b ∧ sServeX c b q x = -1 := by
  refine ⟨?_, ?_, ?_⟩
  · unfold sServe; rw [if_neg (by omega), if_pos w]
  · unfold sBord; rw [if_neg (by omega), if_neg (by omega)]
  · unfold sServeX; rw [if_neg (by omega), if_neg (by omega), if_neg (by omega)]
theorem serve2 {c b : Nat} {q : Q4} {x : Int32} (w : whr q x = 2) : sServe c b q x = (q.1, x :: rmv q.2.1 x, q.2.2) ∧ sBord c b q x = b ∧ sServeX c b q x = -1 := by
  refine ⟨?_, ?_, ?_⟩
  · unfold sServe; rw [if_neg (by omega), if_neg (by omega), if_pos w]
  · unfold sBord; rw [if_neg (by omega), if_neg (by omega)]
  · unfold sServeX; rw [if_neg (by omega), if_neg (by omega), if_neg (by omega)]
theorem serve3 {c b : Nat} {q : Q4} {x : Int32} (w : whr q x = 3) : sBord c b q x = min c (b + stp q.2.2.2.length q.2.2.1.length) ∧ sServe c b q x = ((sRoom c (sBord c b q x) false q).1, x :: (sRoom c (sBord c b q x) false q).2.1, rmv (sRoom c (sBord c b q x) false q).2.2.1 x, (sRoom c (sBord c b q x) false q).2.2.2) ∧ sServeX c b q x = sRoomX c (sBord c b q x) false q (-1) := by
  refine ⟨?_, ?_, ?_⟩
  · unfold sBord; rw [if_pos w]
  · unfold sServe; rw [if_neg (by omega), if_neg (by omega), if_neg (by omega), if_pos w]
  · unfold sServeX; rw [if_neg (by omega), if_pos w]
theorem serve4 {c b : Nat} {q : Q4} {x : Int32} (w : whr q x = 4) : sBord c b q x = b - stp q.2.2.1.length q.2.2.2.length ∧ sServe c b q x = ((sRoom c (sBord c b q x) true q).1, x :: (sRoom c (sBord c b q x) true q).2.1, (sRoom c (sBord c b q x) true q).2.2.1, rmv (sRoom c (sBord c b q x) true q).2.2.2 x) ∧ sServeX c b q x = sRoomX c (sBord c b q x) true q (-1) := by
  refine ⟨?_, ?_, ?_⟩
  · unfold sBord; rw [if_neg (by omega), if_pos w]
  · unfold sServe; rw [if_neg (by omega), if_neg (by omega), if_neg (by omega), if_neg (by omega)]
  · unfold sServeX; rw [if_neg (by omega), if_neg (by omega), if_pos w]
theorem whr0 {L1 L2 L3 L4 : List Int32} {x : Int32} (h1 : x ∉ L1) (h2 : x ∉ L2) (h3 : x ∉ L3) (h4 : x ∉ L4) : nI 0 = nI (whr (L1, L2, L3, L4) x) := by
  unfold whr; rw [if_neg h1, if_neg h2, if_neg h3, if_neg h4]
theorem whr1 {L1 L2 L3 L4 : List Int32} {x : Int32} (h1 : x ∈ L1) : nI 1 = nI (whr (L1, L2, L3, L4) x) := by
  unfold whr; rw [if_pos h1]
theorem whr2 {L1 L2 L3 L4 : List Int32} {x : Int32} (h1 : x ∉ L1) (h2 : x ∈ L2) : nI 2 = nI (whr (L1, L2, L3, L4) x) := by
  unfold whr; rw [if_neg h1, if_pos h2]
theorem whr3 {L1 L2 L3 L4 : List Int32} {x : Int32} (h1 : x ∉ L1) (h2 : x ∉ L2) (h3 : x ∈ L3) : nI 3 = nI (whr (L1, L2, L3, L4) x) := by
  unfold whr; rw [if_neg h1, if_neg h2, if_pos h3]
theorem whr4 {L1 L2 L3 L4 : List Int32} {x : Int32} (h1 : x ∉ L1) (h2 : x ∉ L2) (h3 : x ∉ L3) (h4 : x ∈ L4) : nI 4 = nI (whr (L1, L2, L3, L4) x) := by
  unfold whr; rw [if_neg h1, if_neg h2, if_neg h3, if_pos h4]
theorem pos_in {l : List Int32} {x : Int32} (hl : l.length ≤ 30) (h : ¬ pos l x = -1) : x ∈ l := Decidable.byContradiction (fun z => h ((pos_m1 (by omega)).mpr z))
theorem pos_out {l : List Int32} {x : Int32} (hl : l.length ≤ 30) (h : pos l x = -1) : x ∉ l := (pos_m1 (by omega)).mp h
theorem pos_idx {l : List Int32} {x : Int32} (h : x ∈ l) : pos l x = nI (l.idxOf x) := if_pos h
theorem new_a {c b : Nat} {L1 L2 L3 L4 : List Int32} {x : Int32} {u : Q4 × Int32} (h : L1.length + L3.length = c) (h2 : 0 < L3.length) (hu : u = (sRoom c b false (L1, L2, L3.dropLast, L4), sRoomX c b false (L1, L2, L3.dropLast, L4) x)) : u = (sNew c b (L1, L2, L3, L4), sNewX c b (L1, L2, L3, L4) x) := by
  unfold sNew sNewX
  rw [if_pos h, if_pos h, if_pos h2, if_pos h2]
  exact hu
theorem new_b {c b : Nat} {L1 L2 L3 L4 : List Int32} {x : Int32} (h : L1.length + L3.length = c) (h2 : ¬ 0 < L3.length) : (((L1.dropLast, L2, L3, L4), lst L1) : Q4 × Int32) = (sNew c b (L1, L2, L3, L4), sNewX c b (L1, L2, L3, L4) x) := by
  unfold sNew sNewX
  rw [if_pos h, if_pos h, if_neg h2, if_neg h2]
theorem new_c {c b : Nat} {L1 L2 L3 L4 : List Int32} {x : Int32} {u : Q4 × Int32} (h : ¬ L1.length + L3.length = c) (h2 : L1.length + L3.length + L2.length + L4.length = 2 * c) (hu : u = (sRoom c b false (L1, L2, L3, L4.dropLast), sRoomX c b false (L1, L2, L3, L4.dropLast) x)) : u = (sNew c b (L1, L2, L3, L4), sNewX c b (L1, L2, L3, L4) x) := by
  have h3 : sAll (L1, L2, L3, L4) = 2 * c := h2
  have h4 : c ≤ sAll (L1, L2, L3, L4) := by omega
  unfold sNew sNewX
  rw [if_neg h, if_neg h, if_pos h4, if_pos h4, if_pos h3, if_pos h3]
  exact hu
theorem new_d {c b : Nat} {L1 L2 L3 L4 : List Int32} {x : Int32} {u : Q4 × Int32} (h : ¬ L1.length + L3.length = c) (h1 : c ≤ L1.length + L3.length + L2.length + L4.length) (h2 : ¬ L1.length + L3.length + L2.length + L4.length = 2 * c) (hu : u = (sRoom c b false (L1, L2, L3, L4), sRoomX c b false (L1, L2, L3, L4) x)) : u = (sNew c b (L1, L2, L3, L4), sNewX c b (L1, L2, L3, L4) x) := by
  have h3 : ¬ sAll (L1, L2, L3, L4) = 2 * c := h2
  have h4 : c ≤ sAll (L1, L2, L3, L4) := h1
  unfold sNew sNewX
  rw [if_neg h, if_neg h, if_pos h4, if_pos h4, if_neg h3, if_neg h3]
  exact hu
theorem new_e {c b : Nat} {L1 L2 L3 L4 : List Int32} {x : Int32} (h : ¬ L1.length + L3.length = c) (h1 : ¬ c ≤ L1.length + L3.length + L2.length + L4.length) : (((L1, L2, L3, L4), x) : Q4 × Int32) = (sNew c b (L1, L2, L3, L4), sNewX c b (L1, L2, L3, L4) x) := by
  have h4 : ¬ c ≤ sAll (L1, L2, L3, L4) := h1
  unfold sNew sNewX
  rw [if_neg h, if_neg h, if_neg h4, if_neg h4]
theorem stp_le {o w k : Nat} (h : o ≤ k) (h1 : 1 ≤ k) : stp o w ≤ k := by
  unfold stp
  have := Nat.div_le_self o w
  omega
theorem stp_pos {o w : Nat} : 1 ≤ stp o w := Nat.le_max_left _ _
theorem max_sub {a b : Nat} (ha : a < 2 ^ 30) (hb : b < 2 ^ 30) : (if nI 0 < nI a - nI b then nI a - nI b else nI 0) = nI (a - b) := by
  by_cases h : b ≤ a
  · rw [pk_sub h]
    by_cases h2 : 0 < a - b
    · rw [if_pos ((nI_ltI (by decide) (by omega)).mpr h2)]
    · have e : a - b = 0 := by omega
      rw [e, ite_self]
  · have h3 : nI a - nI b < 0 := pk_sneg hb (by omega)
    have e : a - b = 0 := by omega
    rw [if_neg, e]
    intro h4
    have h5 : (nI a - nI b).toInt < (0 : Int32).toInt := Int32.lt_iff_toInt_lt.mp h3
    have h6 : (nI 0).toInt < (nI a - nI b).toInt := Int32.lt_iff_toInt_lt.mp h4
    have h7 : (nI 0).toInt = 0 := nI_toInt (by decide)
    have h8 : (0 : Int32).toInt = 0 := by decide
    omega
