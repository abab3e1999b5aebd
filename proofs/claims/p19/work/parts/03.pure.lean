/-! the rows' contents as lists -/
def Rw (f : Nat → Int32) (l : List Int32) : Prop := ∀ i, i < l.length → f i = l.getD i 0
def agr (n : Nat) (f g : Nat → Int32) : Prop := ∀ i, i < n → f i = g i
theorem agr_rf {n : Nat} {f : Nat → Int32} : agr n f f := fun _ _ => rfl
theorem agr_upd {n : Nat} {f g : Nat → Int32} (h : agr n f g) (k : Nat) (x : Int32) : agr n (upd f k x) (upd g k x) := fun i hi => by
  unfold upd
  by_cases e : i = k
  · simp [e]
  · simp [e, h i hi]
theorem Rw_nil {f : Nat → Int32} : Rw f [] := fun i h => absurd h (Nat.not_lt_zero i)
theorem Rw_congr {f g : Nat → Int32} {l : List Int32} (h : Rw f l) (hg : ∀ i, i < l.length → g i = f i) : Rw g l := fun i hi => (hg i hi).trans (h i hi)
theorem Rw_cons1 {f : Nat → Int32} {l : List Int32} (x : Int32) (h0 : l.length = 0) : Rw (upd f 0 x) (x :: l) := fun i hi => by
  have hi0 : i = 0 := by simp at hi; omega
  subst hi0
  simp [upd]
theorem Rw_cons {f : Nat → Int32} {l : List Int32} (x : Int32) (h : Rw f l) : Rw (upd (va_cpy f f 0 1 l.length) 0 x) (x :: l) := fun i hi => by
  cases i with
  | zero => simp [upd]
  | succ i =>
    have hi' : i < l.length := by simpa using hi
    have := h i hi'
    simp only [upd, va_cpy, Nat.succ_ne_zero, if_false, List.getD_cons_succ]
    rw [if_pos (by omega)]
    simpa [Nat.add_sub_cancel] using this
theorem Rw_drop {f : Nat → Int32} {l : List Int32} (h : Rw f l) : Rw f l.dropLast := fun i hi => by
  have hi' : i < l.length - 1 := by simpa using hi
  rw [h i (by omega)]
  simp only [List.getD_eq_getElem?_getD, List.getElem?_dropLast, if_pos hi']
theorem Rw_snoc {f : Nat → Int32} {l : List Int32} (x : Int32) (h : Rw f l) : Rw (upd f l.length x) (l ++ [x]) := fun i hi => by
  have hi' : i < l.length + 1 := by simpa using hi
  by_cases e : i = l.length
  · subst e
    simp [upd, List.getD_eq_getElem?_getD]
  · have hl : i < l.length := by omega
    simp only [upd, if_neg e]
    rw [h i hl]
    simp only [List.getD_eq_getElem?_getD, List.getElem?_append_left hl]
theorem Rw_erase {f : Nat → Int32} {l : List Int32} {i : Nat} (h : Rw f l) (hi : i < l.length) : Rw (va_cpy f f (i + 1) i (l.length - i - 1)) (l.eraseIdx i) := fun k hk => by
  have hk' : k < l.length - 1 := by rwa [List.length_eraseIdx_of_lt hi] at hk
  simp only [List.getD_eq_getElem?_getD, List.getElem?_eraseIdx, va_cpy]
  by_cases c : k < i
  · rw [if_neg (by omega), if_pos c, h k (by omega), List.getD_eq_getElem?_getD]
  · rw [if_pos (by omega), if_neg c, h _ (by omega), List.getD_eq_getElem?_getD]
    congr 2
    omega
theorem Rw_eraseL {f : Nat → Int32} {l : List Int32} {i : Nat} (h : Rw f l) (hi : i < l.length) (he : l.length ≤ i + 1) : Rw f (l.eraseIdx i) := fun k hk => by
  have hk' : k < l.length - 1 := by rwa [List.length_eraseIdx_of_lt hi] at hk
  simp only [List.getD_eq_getElem?_getD, List.getElem?_eraseIdx]
  rw [if_pos (by omega), h k (by omega), List.getD_eq_getElem?_getD]
theorem Rw_copy {f g : Nat → Int32} {l : List Int32} (h : Rw f l) : Rw (va_cpy f g 0 0 l.length) l := fun i hi => by
  simp only [va_cpy]
  rw [if_pos (by omega)]
  simpa using h i hi
/-- a jar's place in a row; -1 if it isn't there -/
def pos (l : List Int32) (x : Int32) : Int32 := if x ∈ l then nI (l.idxOf x) else -1
def lst (l : List Int32) : Int32 := l.getD (l.length - 1) 0
def rmv (l : List Int32) (x : Int32) : List Int32 := l.eraseIdx (l.idxOf x)
theorem Rw_lst {f : Nat → Int32} {l : List Int32} (h : Rw f l) (h0 : 0 < l.length) : f (l.length - 1) = lst l := h _ (by omega)
theorem idx_of {x : Int32} : ∀ {l : List Int32} {i : Nat}, i < l.length → (∀ k, k < i → l.getD k 0 ≠ x) → l.getD i 0 = x → x ∈ l ∧ l.idxOf x = i
  | [], i, h, _, _ => absurd h (Nat.not_lt_zero i)
  | a :: l, 0, _, _, h => by
    have e : a = x := by simpa using h
    subst e
    simp
  | a :: l, i + 1, hi, hk, h => by
    have ha : a ≠ x := by simpa using hk 0 (Nat.succ_pos _)
    obtain ⟨h1, h2⟩ := idx_of (l := l) (i := i) (by simpa using hi) (fun k hk' => by simpa using hk (k + 1) (by omega)) (by simpa using h)
    refine ⟨List.mem_cons_of_mem _ h1, ?_⟩
    rw [List.idxOf_cons]
    have : (a == x) = false := by simpa using ha
    simp [this, h2]
theorem not_in {x : Int32} : ∀ {l : List Int32}, (∀ k, k < l.length → l.getD k 0 ≠ x) → x ∉ l
  | [], _ => by simp
  | a :: l, h => by
    have ha : a ≠ x := by simpa using h 0 (by simp)
    have := not_in (l := l) (x := x) (fun k hk => by simpa using h (k + 1) (by simpa using hk))
    simp [this, Ne.symm ha]
theorem pos_at {l : List Int32} {x : Int32} {i : Nat} (hi : i < l.length) (hk : ∀ k, k < i → l.getD k 0 ≠ x) (h : l.getD i 0 = x) : pos l x = nI i := by
  obtain ⟨h1, h2⟩ := idx_of hi hk h
  unfold pos
  rw [if_pos h1, h2]
theorem pos_no {l : List Int32} {x : Int32} (h : ∀ k, k < l.length → l.getD k 0 ≠ x) : pos l x = -1 := if_neg (not_in h)
theorem idx_lt {l : List Int32} {x : Int32} (h : x ∈ l) : l.idxOf x < l.length := List.idxOf_lt_length_of_mem h
theorem nI_ne_m1 {n : Nat} (h : n < 2 ^ 31) : ¬ nI n = -1 := fun e => by
  have h1 : (nI n).toInt = (-1 : Int32).toInt := by rw [e]
  rw [nI_toInt h] at h1
  have h2 : (-1 : Int32).toInt = -1 := by decide
  omega
theorem pos_m1 {l : List Int32} {x : Int32} (hl : l.length < 2 ^ 31) : pos l x = -1 ↔ x ∉ l := by
  unfold pos
  by_cases h : x ∈ l
  · have := idx_lt h
    simp [h, nI_ne_m1 (n := l.idxOf x) (by omega)]
  · simp [h]
theorem rmv_len {l : List Int32} {x : Int32} (h : x ∈ l) : (rmv l x).length = l.length - 1 := List.length_eraseIdx_of_lt (idx_lt h)
theorem mem_rmv {l : List Int32} {x y : Int32} (h : y ∈ rmv l x) : y ∈ l := List.mem_of_mem_eraseIdx h
theorem lst_mem {l : List Int32} (h : 0 < l.length) : lst l ∈ l := by
  unfold lst
  have : l.length - 1 < l.length := by omega
  rw [List.getD_eq_getElem?_getD, List.getElem?_eq_getElem this]
  simp
/-! what the shelves do: recent, frequent, their ghosts -/
abbrev Q4 : Type := List Int32 × List Int32 × List Int32 × List Int32
abbrev sOver (b : Nat) (ff : Bool) (q : Q4) : Prop := 0 < q.1.length ∧ ((b < q.1.length ∨ (q.1.length = b ∧ ff = true)) ∨ q.2.1.length = 0)
def sRoom (c b : Nat) (ff : Bool) (q : Q4) : Q4 :=
  if q.1.length + q.2.1.length < c then q
  else if sOver b ff q then (q.1.dropLast, q.2.1, lst q.1 :: q.2.2.1, q.2.2.2)
  else (q.1, q.2.1.dropLast, q.2.2.1, lst q.2.1 :: q.2.2.2)
/-- who has to go as room is made; x: who had gone before -/
def sRoomX (c b : Nat) (ff : Bool) (q : Q4) (x : Int32) : Int32 :=
  if q.1.length + q.2.1.length < c then x
  else if sOver b ff q then lst q.1
  else lst q.2.1
def sAll (q : Q4) : Nat := q.1.length + q.2.2.1.length + q.2.1.length + q.2.2.2.length
def sNew (c b : Nat) (q : Q4) : Q4 :=
  if q.1.length + q.2.2.1.length = c then
    if 0 < q.2.2.1.length then sRoom c b false (q.1, q.2.1, q.2.2.1.dropLast, q.2.2.2) else (q.1.dropLast, q.2.1, q.2.2.1, q.2.2.2)
  else if c ≤ sAll q then
    if sAll q = 2 * c then sRoom c b false (q.1, q.2.1, q.2.2.1, q.2.2.2.dropLast) else sRoom c b false q
  else q
def sNewX (c b : Nat) (q : Q4) (x : Int32) : Int32 :=
  if q.1.length + q.2.2.1.length = c then
    if 0 < q.2.2.1.length then sRoomX c b false (q.1, q.2.1, q.2.2.1.dropLast, q.2.2.2) x else lst q.1
  else if c ≤ sAll q then
    if sAll q = 2 * c then sRoomX c b false (q.1, q.2.1, q.2.2.1, q.2.2.2.dropLast) x else sRoomX c b false q x
  else x
def whr (q : Q4) (x : Int32) : Nat := if x ∈ q.1 then 1 else if x ∈ q.2.1 then 2 else if x ∈ q.2.2.1 then 3 else if x ∈ q.2.2.2 then 4 else 0
def stp (o w : Nat) : Nat := max 1 (o / w)
def sBord (c b : Nat) (q : Q4) (x : Int32) : Nat :=
  if whr q x = 3 then min c (b + stp q.2.2.2.length q.2.2.1.length)
  else if whr q x = 4 then b - stp q.2.2.1.length q.2.2.2.length
  else b
def sServe (c b : Nat) (q : Q4) (x : Int32) : Q4 :=
  if whr q x = 0 then (x :: (sNew c b q).1, (sNew c b q).2)
  else if whr q x = 1 then (rmv q.1 x, x :: q.2.1, q.2.2)
  else if whr q x = 2 then (q.1, x :: rmv q.2.1 x, q.2.2)
  else if whr q x = 3 then ((sRoom c (sBord c b q x) false q).1, x :: (sRoom c (sBord c b q x) false q).2.1, rmv (sRoom c (sBord c b q x) false q).2.2.1 x, (sRoom c (sBord c b q x) false q).2.2.2)
  else ((sRoom c (sBord c b q x) true q).1, x :: (sRoom c (sBord c b q x) true q).2.1, (sRoom c (sBord c b q x) true q).2.2.1, rmv (sRoom c (sBord c b q x) true q).2.2.2 x)
def sServeX (c b : Nat) (q : Q4) (x : Int32) : Int32 :=
  if whr q x = 0 then sNewX c b q (-1)
  else if whr q x = 3 then sRoomX c (sBord c b q x) false q (-1)
  else if whr q x = 4 then sRoomX c (sBord c b q x) true q (-1)
  else -1
/-- the plain row -/
def sPl (c : Nat) (P : List Int32) (x : Int32) : List Int32 := if x ∈ P then x :: rmv P x else if c ≤ P.length then x :: P.dropLast else x :: P
/-! what holds of the shelves at all times -/
def jarOk (x : Int32) : Prop := ∃ n : Nat, n < 30 ∧ x = nI n
def allOk (l : List Int32) : Prop := ∀ x, x ∈ l → jarOk x
abbrev Num (c b : Nat) (q : Q4) : Prop := 1 ≤ c ∧ c ≤ 12 ∧ b ≤ c ∧ q.1.length + q.2.1.length ≤ c ∧ q.1.length + q.2.2.1.length ≤ c ∧ q.1.length + q.2.1.length + q.2.2.1.length + q.2.2.2.length ≤ 2 * c
abbrev Jrs (q : Q4) : Prop := allOk q.1 ∧ allOk q.2.1 ∧ allOk q.2.2.1 ∧ allOk q.2.2.2
theorem ok_cons {x : Int32} {l : List Int32} (h : jarOk x) (hl : allOk l) : allOk (x :: l) := fun y hy => by
  rcases List.mem_cons.mp hy with e | e
  · rw [e]; exact h
  · exact hl y e
theorem ok_drop {l : List Int32} (hl : allOk l) : allOk l.dropLast := fun y hy => hl y ((List.dropLast_sublist l).subset hy)
theorem ok_rmv {l : List Int32} {x : Int32} (hl : allOk l) : allOk (rmv l x) := fun y hy => hl y (mem_rmv hy)
theorem ok_lst {l : List Int32} (hl : allOk l) (h : 0 < l.length) : jarOk (lst l) := hl _ (lst_mem h)
theorem ok_ne {x : Int32} (h : jarOk x) : ¬ x = -1 := by
  obtain ⟨n, h1, rfl⟩ := h
  exact nI_ne_m1 (by omega)
theorem ok_nil : allOk [] := fun _ h => by cases h
theorem not_over {c b : Nat} {ff : Bool} {q : Q4} (h : Num c b q) (h1 : ¬ q.1.length + q.2.1.length < c) (h2 : ¬ sOver b ff q) : 0 < q.2.1.length := by
  rcases Nat.eq_zero_or_pos q.2.1.length with z | z
  · have := h.1
    exact absurd ⟨by omega, Or.inr z⟩ h2
  · exact z
theorem room_cases {c b : Nat} {ff : Bool} {q : Q4} (h : Num c b q) : (q.1.length + q.2.1.length < c ∧ sRoom c b ff q = q ∧ ∀ x, sRoomX c b ff q x = x) ∨ (¬ q.1.length + q.2.1.length < c ∧ sOver b ff q ∧ 0 < q.1.length ∧ sRoom c b ff q = (q.1.dropLast, q.2.1, lst q.1 :: q.2.2.1, q.2.2.2) ∧ ∀ x, sRoomX c b ff q x = lst q.1) ∨ (¬ q.1.length + q.2.1.length < c ∧ ¬ sOver b ff q ∧ 0 < q.2.1.length ∧ sRoom c b ff q = (q.1, q.2.1.dropLast, q.2.2.1, lst q.2.1 :: q.2.2.2) ∧ ∀ x, sRoomX c b ff q x = lst q.2.1) := by
  by_cases h1 : q.1.length + q.2.1.length < c
  · exact Or.inl ⟨h1, if_pos h1, fun x => if_pos h1⟩
  · by_cases h2 : sOver b ff q
    · exact Or.inr (Or.inl ⟨h1, h2, h2.1, by unfold sRoom; rw [if_neg h1, if_pos h2], fun x => by unfold sRoomX; rw [if_neg h1, if_pos h2]⟩)
    · exact Or.inr (Or.inr ⟨h1, h2, not_over h h1 h2, by unfold sRoom; rw [if_neg h1, if_neg h2], fun x => by unfold sRoomX; rw [if_neg h1, if_neg h2]⟩)
theorem room_num {c b : Nat} {ff : Bool} {q : Q4} (h : Num c b q) : Num c b (sRoom c b ff q) := by
  rcases room_cases (ff := ff) h with ⟨-, e, -⟩ | ⟨-, -, z, e, -⟩ | ⟨-, -, z, e, -⟩ <;> rw [e]
  · exact h
  · simp only [Num, List.length_dropLast, List.length_cons] at *; omega
  · simp only [Num, List.length_dropLast, List.length_cons] at *; omega
theorem room_lt {c b : Nat} {ff : Bool} {q : Q4} (h : Num c b q) : (sRoom c b ff q).1.length + (sRoom c b ff q).2.1.length < c := by
  rcases room_cases (ff := ff) h with ⟨z, e, -⟩ | ⟨-, -, z, e, -⟩ | ⟨-, -, z, e, -⟩ <;> rw [e]
  · exact z
  · simp only [Num, List.length_dropLast] at *; omega
  · simp only [Num, List.length_dropLast] at *; omega
theorem room_sum {c b : Nat} {ff : Bool} {q : Q4} (h : Num c b q) : q.2.2.1.length ≤ (sRoom c b ff q).2.2.1.length ∧ q.2.2.2.length ≤ (sRoom c b ff q).2.2.2.length ∧ (sRoom c b ff q).1.length + (sRoom c b ff q).2.2.1.length = q.1.length + q.2.2.1.length ∧ (sRoom c b ff q).1.length + (sRoom c b ff q).2.1.length + (sRoom c b ff q).2.2.1.length + (sRoom c b ff q).2.2.2.length = q.1.length + q.2.1.length + q.2.2.1.length + q.2.2.2.length := by
  rcases room_cases (ff := ff) h with ⟨z, e, -⟩ | ⟨-, -, z, e, -⟩ | ⟨-, -, z, e, -⟩ <;> rw [e]
  · exact ⟨Nat.le_refl _, Nat.le_refl _, rfl, rfl⟩
  · refine ⟨?_, ?_, ?_, ?_⟩ <;> (try simp only [List.length_dropLast, List.length_cons]) <;> omega
  · refine ⟨?_, ?_, ?_, ?_⟩ <;> (try simp only [List.length_dropLast, List.length_cons]) <;> omega
theorem room_mem3 {c b : Nat} {ff : Bool} {q : Q4} {x : Int32} (hn : Num c b q) (h : x ∈ q.2.2.1) : x ∈ (sRoom c b ff q).2.2.1 := by
  rcases room_cases (ff := ff) hn with ⟨z, e, -⟩ | ⟨-, -, z, e, -⟩ | ⟨-, -, z, e, -⟩ <;> rw [e]
  · exact h
  · exact List.mem_cons_of_mem _ h
  · exact h
theorem room_mem4 {c b : Nat} {ff : Bool} {q : Q4} {x : Int32} (hn : Num c b q) (h : x ∈ q.2.2.2) : x ∈ (sRoom c b ff q).2.2.2 := by
  rcases room_cases (ff := ff) hn with ⟨z, e, -⟩ | ⟨-, -, z, e, -⟩ | ⟨-, -, z, e, -⟩ <;> rw [e]
  · exact h
  · exact h
  · exact List.mem_cons_of_mem _ h
theorem room_jrs {c b : Nat} {ff : Bool} {q : Q4} (hn : Num c b q) (h : Jrs q) : Jrs (sRoom c b ff q) := by
  obtain ⟨h1, h2, h3, h4⟩ := h
  rcases room_cases (ff := ff) hn with ⟨z, e, -⟩ | ⟨-, -, z, e, -⟩ | ⟨-, -, z, e, -⟩ <;> rw [e]
  · exact ⟨h1, h2, h3, h4⟩
  · exact ⟨ok_drop h1, h2, ok_cons (ok_lst h1 z) h3, h4⟩
  · exact ⟨h1, ok_drop h2, h3, ok_cons (ok_lst h2 z) h4⟩
theorem whr_cases (q : Q4) (x : Int32) : (whr q x = 0 ∧ x ∉ q.1 ∧ x ∉ q.2.1 ∧ x ∉ q.2.2.1 ∧ x ∉ q.2.2.2) ∨ (whr q x = 1 ∧ x ∈ q.1) ∨ (whr q x = 2 ∧ x ∉ q.1 ∧ x ∈ q.2.1) ∨ (whr q x = 3 ∧ x ∉ q.1 ∧ x ∉ q.2.1 ∧ x ∈ q.2.2.1) ∨ (whr q x = 4 ∧ x ∉ q.1 ∧ x ∉ q.2.1 ∧ x ∉ q.2.2.1 ∧ x ∈ q.2.2.2) := by
  unfold whr
  by_cases h1 : x ∈ q.1
  · simp [h1]
  · by_cases h2 : x ∈ q.2.1
    · simp [h1, h2]
    · by_cases h3 : x ∈ q.2.2.1
      · simp [h1, h2, h3]
      · by_cases h4 : x ∈ q.2.2.2 <;> simp [h1, h2, h3, h4]
theorem whr_le (q : Q4) (x : Int32) : whr q x ≤ 4 := by
  rcases whr_cases q x with h | h | h | h | h <;> omega
theorem bord_le {c b : Nat} {q : Q4} {x : Int32} (h : b ≤ c) : sBord c b q x ≤ c := by
  unfold sBord
  split
  · exact Nat.min_le_left _ _
  · split
    · omega
    · exact h
theorem new_ok {c b : Nat} {q : Q4} (h : Num c b q) (hj : Jrs q) : Num c b ((sNew c b q)) ∧ Jrs (sNew c b q) ∧ (sNew c b q).1.length + (sNew c b q).2.1.length < c ∧ (sNew c b q).1.length + (sNew c b q).2.2.1.length < c ∧ (sNew c b q).1.length + (sNew c b q).2.1.length + (sNew c b q).2.2.1.length + (sNew c b q).2.2.2.length < 2 * c := by
  obtain ⟨j1, j2, j3, j4⟩ := hj
  unfold sNew
  split
  · rename_i h1
    split
    · rename_i h2
      have hn : Num c b (q.1, q.2.1, q.2.2.1.dropLast, q.2.2.2) := by simp only [Num, List.length_dropLast] at *; omega
      have a1 := room_num (ff := false) hn
      have a2 := room_lt (ff := false) hn
      have a3 := room_sum (ff := false) hn
      have a4 := room_jrs (ff := false) hn ⟨j1, j2, ok_drop j3, j4⟩
      simp only [List.length_dropLast] at a3
      exact ⟨a1, a4, a2, by omega, by omega⟩
    · refine ⟨?_, ⟨ok_drop j1, j2, j3, j4⟩, ?_⟩ <;> simp only [Num, List.length_dropLast] at * <;> omega
  · rename_i h1
    split
    · rename_i h2
      split
      · rename_i h3
        unfold sAll at h2 h3
        have hn : Num c b (q.1, q.2.1, q.2.2.1, q.2.2.2.dropLast) := by simp only [Num, List.length_dropLast] at *; omega
        have a1 := room_num (ff := false) hn
        have a2 := room_lt (ff := false) hn
        have a3 := room_sum (ff := false) hn
        have a4 := room_jrs (ff := false) hn ⟨j1, j2, j3, ok_drop j4⟩
        simp only [List.length_dropLast] at a3
        have h0 : 0 < q.2.2.2.length := by simp only [Num] at h; omega
        exact ⟨a1, a4, a2, by simp only [Num] at h; omega, by simp only [Num] at h; omega⟩
      · rename_i h3
        unfold sAll at h2 h3
        have a1 := room_num (ff := false) h
        have a2 := room_lt (ff := false) h
        have a3 := room_sum (ff := false) h
        have a4 := room_jrs (ff := false) h ⟨j1, j2, j3, j4⟩
        exact ⟨a1, a4, a2, by simp only [Num] at h; omega, by simp only [Num] at h; omega⟩
    · rename_i h2
      unfold sAll at h2
      refine ⟨h, ⟨j1, j2, j3, j4⟩, ?_⟩
      simp only [Num] at h
      omega
theorem serve_ok {c b : Nat} {q : Q4} {x : Int32} (h : Num c b q) (hj : Jrs q) (hx : jarOk x) : Num c (sBord c b q x) (sServe c b q x) ∧ Jrs (sServe c b q x) := by
  have hb := bord_le (q := q) (x := x) h.2.2.1
  obtain ⟨j1, j2, j3, j4⟩ := hj
  unfold sServe
  rcases whr_cases q x with ⟨w, -⟩ | ⟨w, m⟩ | ⟨w, -, m⟩ | ⟨w, -, -, m⟩ | ⟨w, -, -, -, m⟩
  · have e : sBord c b q x = b := by simp [sBord, w]
    obtain ⟨n1, ⟨k1, k2, k3, k4⟩, n2, n3, n4⟩ := new_ok h ⟨j1, j2, j3, j4⟩
    rw [if_pos w, e]
    refine ⟨?_, ok_cons hx k1, k2, k3, k4⟩
    simp only [Num, List.length_cons] at *
    omega
  · have e : sBord c b q x = b := by simp [sBord, w]
    have := List.length_pos_of_mem m
    rw [if_neg (by omega), if_pos w, e]
    refine ⟨?_, ok_rmv j1, ok_cons hx j2, j3, j4⟩
    simp only [Num, List.length_cons, rmv_len m] at *
    omega
  · have e : sBord c b q x = b := by simp [sBord, w]
    have := List.length_pos_of_mem m
    rw [if_neg (by omega), if_neg (by omega), if_pos w, e]
    refine ⟨?_, j1, ok_cons hx (ok_rmv j2), j3, j4⟩
    simp only [Num, List.length_cons, rmv_len m] at *
    omega
  · rw [if_neg (by omega), if_neg (by omega), if_neg (by omega), if_pos w]
    generalize sBord c b q x = b' at hb
    have hn : Num c b' q := by simp only [Num] at *; omega
    obtain ⟨k1, k2, k3, k4⟩ := room_jrs (ff := false) hn ⟨j1, j2, j3, j4⟩
    have a1 := room_num (ff := false) hn
    have a2 := room_lt (ff := false) hn
    have m3 := room_mem3 (ff := false) hn m
    have := List.length_pos_of_mem m3
    refine ⟨?_, k1, ok_cons hx k2, ok_rmv k3, k4⟩
    simp only [Num, List.length_cons, rmv_len m3] at *
    omega
  · rw [if_neg (by omega), if_neg (by omega), if_neg (by omega), if_neg (by omega)]
    generalize sBord c b q x = b' at hb
    have hn : Num c b' q := by simp only [Num] at *; omega
    obtain ⟨k1, k2, k3, k4⟩ := room_jrs (ff := true) hn ⟨j1, j2, j3, j4⟩
    have a1 := room_num (ff := true) hn
    have a2 := room_lt (ff := true) hn
    have m4 := room_mem4 (ff := true) hn m
    have := List.length_pos_of_mem m4
    refine ⟨?_, k1, ok_cons hx k2, k3, ok_rmv k4⟩
    simp only [Num, List.length_cons, rmv_len m4] at *
    omega
theorem pl_ok {c : Nat} {P : List Int32} {x : Int32} (h1 : 1 ≤ c) (h : P.length ≤ c) (hj : allOk P) (hx : jarOk x) : (sPl c P x).length ≤ c ∧ allOk (sPl c P x) := by
  unfold sPl
  split
  · rename_i m
    have := List.length_pos_of_mem m
    exact ⟨by simp only [List.length_cons, rmv_len m]; omega, ok_cons hx (ok_rmv hj)⟩
  · split
    · exact ⟨by simp only [List.length_cons, List.length_dropLast]; omega, ok_cons hx (ok_drop hj)⟩
    · exact ⟨by simp only [List.length_cons]; omega, ok_cons hx hj⟩
