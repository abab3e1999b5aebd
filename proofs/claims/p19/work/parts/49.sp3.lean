/-! what the law's loops count -/
def mnF (f : Nat → Int32) (r : Int32) (n : Nat) : Nat := sumN (fun i => it (f i = r)) n
theorem mnF_t {f : Nat → Int32} {r : Int32} {n : Nat} (h : f n = r) : mnF f r (n + 1) = mnF f r n + 1 := by
  show sumN _ n + it (f n = r) = _
  rw [it_t h]; rfl
theorem mnF_f {f : Nat → Int32} {r : Int32} {n : Nat} (h : ¬ f n = r) : mnF f r (n + 1) = mnF f r n + 0 := by
  show sumN _ n + it (f n = r) = _
  rw [it_f h]; rfl
theorem mnF_le {f : Nat → Int32} {r : Int32} {n : Nat} : mnF f r n ≤ n := sumN_le (fun _ => it_le)
def plF (fa fb : Nat → Int32) (j n : Nat) : Nat := sumN (fun i => it (fa i = fa j ∧ fb j < fb i)) n
theorem plF_t {fa fb : Nat → Int32} {j n : Nat} (h : fa n = fa j) (h2 : fb j < fb n) : plF fa fb j (n + 1) = plF fa fb j n + 1 := by
  show sumN _ n + it (fa n = fa j ∧ fb j < fb n) = _
  rw [it_t ⟨h, h2⟩]; rfl
theorem plF_f1 {fa fb : Nat → Int32} {j n : Nat} (h : ¬ fa n = fa j) : plF fa fb j (n + 1) = plF fa fb j n + 0 := by
  show sumN _ n + it (fa n = fa j ∧ fb j < fb n) = _
  rw [it_f (fun z => h z.1)]; rfl
theorem plF_f2 {fa fb : Nat → Int32} {j n : Nat} (h : ¬ fb j < fb n) : plF fa fb j (n + 1) = plF fa fb j n + 0 := by
  show sumN _ n + it (fa n = fa j ∧ fb j < fb n) = _
  rw [it_f (fun z => h z.2)]; rfl
theorem plF_le {fa fb : Nat → Int32} {j n : Nat} : plF fa fb j n ≤ n := sumN_le (fun _ => it_le)
def ppF (fp : Nat → Int32) (j n : Nat) : Nat := sumN (fun i => it (fp j < fp i)) n
theorem ppF_t {fp : Nat → Int32} {j n : Nat} (h : fp j < fp n) : ppF fp j (n + 1) = ppF fp j n + 1 := by
  show sumN _ n + it (fp j < fp n) = _
  rw [it_t h]; rfl
theorem ppF_f {fp : Nat → Int32} {j n : Nat} (h : ¬ fp j < fp n) : ppF fp j (n + 1) = ppF fp j n + 0 := by
  show sumN _ n + it (fp j < fp n) = _
  rw [it_f h]; rfl
theorem ppF_le {fp : Nat → Int32} {j n : Nat} : ppF fp j n ≤ n := sumN_le (fun _ => it_le)
def pcF (fp : Nat → Int32) (n : Nat) : Nat := sumN (fun i => it (¬ fp i = 0)) n
theorem pcF_t {fp : Nat → Int32} {n : Nat} (h : ¬ fp n = 0) : pcF fp (n + 1) = pcF fp n + 1 := by
  show sumN _ n + it (¬ fp n = 0) = _
  rw [it_t h]; rfl
theorem pcF_f {fp : Nat → Int32} {n : Nat} (h : fp n = 0) : pcF fp (n + 1) = pcF fp n := by
  show sumN _ n + it (¬ fp n = 0) = _
  rw [it_f (fun z => z h)]; rfl
theorem pcF_le {fp : Nat → Int32} {n : Nat} : pcF fp n ≤ n := sumN_le (fun _ => it_le)
def lsF (fa fb : Nat → Int32) (r : Int32) (n : Nat) : Int32 := lsf (fun i => decide (fa i = r)) fb n
theorem lsF_0 {fa fb : Nat → Int32} {r : Int32} : lsF fa fb r 0 = -1 := rfl
theorem lsF_cases {fa fb : Nat → Int32} {r : Int32} (n : Nat) : lsF fa fb r n = -1 ∨ ∃ b, b < n ∧ lsF fa fb r n = nI b := lsf_cases n
theorem lsF_f {fa fb : Nat → Int32} {r : Int32} {n : Nat} (h : ¬ fa n = r) : lsF fa fb r (n + 1) = lsF fa fb r n := lsf_f (decide_eq_false h)
theorem lsF_n {fa fb : Nat → Int32} {r : Int32} {n : Nat} (h : fa n = r) (h2 : lsF fa fb r n = -1) : lsF fa fb r (n + 1) = nI n := lsf_t (decide_eq_true h) (Or.inl (by
  show lsF fa fb r n < 0
  rw [h2]; exact m1_lt))
theorem lsF_t {fa fb : Nat → Int32} {r : Int32} {n b : Nat} (h : fa n = r) (hb : b < 30) (h2 : lsF fa fb r n = nI b) (h3 : fb n < fb b) : lsF fa fb r (n + 1) = nI n := lsf_t (decide_eq_true h) (Or.inr (by
  show fb n < fb (ix (lsF fa fb r n))
  rw [h2, ix_nI hb]; exact h3))
theorem lsF_g {fa fb : Nat → Int32} {r : Int32} {n b : Nat} (hb : b < 30) (h2 : lsF fa fb r n = nI b) (h3 : ¬ fb n < fb b) : lsF fa fb r (n + 1) = nI b := (lsf_g (fun z => by
  have e : ix (lsF fa fb r n) = b := by rw [h2]; exact ix_nI hb
  have z2 : lsF fa fb r n < 0 ∨ fb n < fb (ix (lsF fa fb r n)) := z
  rw [e, h2] at z2
  exact z2.elim (nI_pos (by omega)) h3)).trans h2
def olF (fp : Nat → Int32) (n : Nat) : Int32 := lsf (fun i => decide (¬ fp i = 0)) fp n
theorem olF_cases {fp : Nat → Int32} (n : Nat) : olF fp n = -1 ∨ ∃ b, b < n ∧ olF fp n = nI b := lsf_cases n
theorem olF_f {fp : Nat → Int32} {n : Nat} (h : fp n = 0) : olF fp (n + 1) = olF fp n := lsf_f (decide_eq_false (fun z => z h))
theorem olF_n {fp : Nat → Int32} {n : Nat} (h : ¬ fp n = 0) (h2 : olF fp n = -1) : olF fp (n + 1) = nI n := lsf_t (decide_eq_true h) (Or.inl (by
  show olF fp n < 0
  rw [h2]; exact m1_lt))
theorem olF_t {fp : Nat → Int32} {n b : Nat} (h : ¬ fp n = 0) (hb : b < 30) (h2 : olF fp n = nI b) (h3 : fp n < fp b) : olF fp (n + 1) = nI n := lsf_t (decide_eq_true h) (Or.inr (by
  show fp n < fp (ix (olF fp n))
  rw [h2, ix_nI hb]; exact h3))
theorem olF_g {fp : Nat → Int32} {n b : Nat} (hb : b < 30) (h2 : olF fp n = nI b) (h3 : ¬ fp n < fp b) : olF fp (n + 1) = nI b := (lsf_g (fun z => by
  have e : ix (olF fp n) = b := by rw [h2]; exact ix_nI hb
  have z2 : olF fp n < 0 ∨ fp n < fp (ix (olF fp n)) := z
  rw [e, h2] at z2
  exact z2.elim (nI_pos (by omega)) h3)).trans h2
/-! the law's own move of the border -/
def clampI (rc : Nat) (t : Int32) : Int32 := if t < 0 then 0 else if nI rc < t then nI rc else t
theorem clampN {rc t : Nat} (hr : rc < 2 ^ 31) (ht : t < 2 ^ 31) : clampI rc (nI t) = nI (min rc t) := by
  unfold clampI
  rw [if_neg (nI_pos ht)]
  by_cases h : rc < t
  · rw [if_pos ((nI_ltI hr ht).mpr h), Nat.min_eq_left (by omega)]
  · rw [if_neg (fun z => h ((nI_ltI hr ht).mp z)), Nat.min_eq_right (by omega)]
theorem clampS {rc a t : Nat} (hr : rc < 2 ^ 30) (ha : a ≤ rc) (ht : t < 2 ^ 30) : clampI rc (nI a - nI t) = nI (a - t) := by
  unfold clampI
  by_cases h : a < t
  · rw [if_pos (pk_sneg ht h), show a - t = 0 by omega]; rfl
  · rw [pk_sub (by omega), if_neg (nI_pos (by omega)), if_neg (nI_nlt (by omega) (by omega))]
theorem stp1 {o w : Nat} (h : o ≤ w) : stp o w = 1 := by
  unfold stp
  have h2 : o / w ≤ 1 := by
    rcases Nat.eq_zero_or_pos w with z | z
    · subst z; simp
    · exact Nat.le_of_lt_succ ((Nat.div_lt_iff_lt_mul z).mpr (by omega))
  omega
theorem stpD {o w : Nat} (h : w < o) (h0 : 0 < w) : stp o w = o / w := by
  unfold stp
  have h2 : 1 ≤ o / w := (Nat.le_div_iff_mul_le h0).mpr (by omega)
  omega
theorem bord3 {c b : Nat} {q : Q4} {x : Int32} (w : whr q x = 3) : sBord c b q x = min c (b + stp q.2.2.2.length q.2.2.1.length) := (serve3 w).1
theorem bord4 {c b : Nat} {q : Q4} {x : Int32} (w : whr q x = 4) : sBord c b q x = b - stp q.2.2.1.length q.2.2.2.length := (serve4 w).1
theorem bordE {c b : Nat} {q : Q4} {x : Int32} (w : ¬ whr q x = 3) (w4 : ¬ whr q x = 4) : sBord c b q x = b := by
  unfold sBord; rw [if_neg w, if_neg w4]
theorem roA {c b : Nat} {ff : Bool} {q : Q4} (h : q.1.length + q.2.1.length < c) : sRoom c b ff q = q := if_pos h
theorem roB {c b : Nat} {ff : Bool} {q : Q4} (hd : Nd q) (h : ¬ q.1.length + q.2.1.length < c) (ho : sOver b ff q) : insq 3 (lst q.1) (delq (lst q.1) q) = sRoom c b ff q := by
  unfold sRoom
  rw [if_neg h, if_pos ho, (del_lst hd).1 ho.1]; rfl
theorem roC {c b : Nat} {ff : Bool} {q : Q4} (hd : Nd q) (h : ¬ q.1.length + q.2.1.length < c) (ho : ¬ sOver b ff q) (h2 : 0 < q.2.1.length) : insq 4 (lst q.2.1) (delq (lst q.2.1) q) = sRoom c b ff q := by
  unfold sRoom
  rw [if_neg h, if_neg ho, (del_lst hd).2.1 h2]; rfl
theorem snew1 {c b : Nat} {q : Q4} (h : q.1.length + q.2.2.1.length = c) (h2 : 0 < q.2.2.1.length) : sRoom c b false (q.1, q.2.1, q.2.2.1.dropLast, q.2.2.2) = sNew c b q := by
  unfold sNew; rw [if_pos h, if_pos h2]
theorem snew2 {c b : Nat} {q : Q4} (h : q.1.length + q.2.2.1.length = c) (h2 : ¬ 0 < q.2.2.1.length) : (q.1.dropLast, q.2.1, q.2.2.1, q.2.2.2) = sNew c b q := by
  unfold sNew; rw [if_pos h, if_neg h2]
theorem snew3 {c b : Nat} {q : Q4} (h : ¬ q.1.length + q.2.2.1.length = c) (h2 : q.1.length + q.2.2.1.length + q.2.1.length + q.2.2.2.length = c + c) (h3 : c ≤ q.1.length + q.2.2.1.length + q.2.1.length + q.2.2.2.length) : sRoom c b false (q.1, q.2.1, q.2.2.1, q.2.2.2.dropLast) = sNew c b q := by
  unfold sNew sAll; rw [if_neg h, if_pos h3, if_pos (by omega)]
theorem snew4 {c b : Nat} {q : Q4} (h : ¬ q.1.length + q.2.2.1.length = c) (h2 : ¬ q.1.length + q.2.2.1.length + q.2.1.length + q.2.2.2.length = c + c) (h3 : c ≤ q.1.length + q.2.2.1.length + q.2.1.length + q.2.2.2.length) : sRoom c b false q = sNew c b q := by
  unfold sNew sAll; rw [if_neg h, if_pos h3, if_neg (by omega)]
theorem snew5 {c b : Nat} {q : Q4} (h : ¬ q.1.length + q.2.2.1.length = c) (h3 : ¬ c ≤ q.1.length + q.2.2.1.length + q.2.1.length + q.2.2.2.length) : q = sNew c b q := by
  unfold sNew sAll; rw [if_neg h, if_neg h3]
