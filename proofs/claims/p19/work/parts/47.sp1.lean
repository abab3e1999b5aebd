/-! sums over the jars -/
def sumN (g : Nat → Nat) : Nat → Nat
  | 0 => 0
  | n + 1 => sumN g n + g n
theorem sumN_congr {g h : Nat → Nat} : ∀ {n : Nat}, (∀ i, i < n → g i = h i) → sumN g n = sumN h n
  | 0, _ => rfl
  | n + 1, e => by
    show sumN g n + g n = sumN h n + h n
    rw [sumN_congr (n := n) (fun i hi => e i (by omega)), e n (by omega)]
theorem sumN_add {g h : Nat → Nat} : ∀ {n : Nat}, sumN (fun i => g i + h i) n = sumN g n + sumN h n
  | 0 => rfl
  | n + 1 => by
    show sumN (fun i => g i + h i) n + (g n + h n) = (sumN g n + g n) + (sumN h n + h n)
    rw [sumN_add (n := n)]
    omega
theorem sumN_le {g : Nat → Nat} (h : ∀ i, g i ≤ 1) : ∀ {n : Nat}, sumN g n ≤ n
  | 0 => Nat.le_refl _
  | n + 1 => by
    have := sumN_le h (n := n)
    have := h n
    show sumN g n + g n ≤ n + 1
    omega
theorem sumN_0 {g : Nat → Nat} : ∀ {n : Nat}, (∀ i, i < n → g i = 0) → sumN g n = 0
  | 0, _ => rfl
  | n + 1, e => by
    show sumN g n + g n = 0
    rw [sumN_0 (n := n) (fun i hi => e i (by omega)), e n (by omega)]
theorem sumN_one {g : Nat → Nat} {j : Nat} : ∀ {n : Nat}, j < n → (∀ i, i < n → i ≠ j → g i = 0) → sumN g n = g j
  | 0, h, _ => absurd h (Nat.not_lt_zero _)
  | n + 1, h, e => by
    show sumN g n + g n = g j
    by_cases c : j = n
    · subst c
      rw [sumN_0 (n := j) (fun i hi => e i (by omega) (by omega)), Nat.zero_add]
    · rw [sumN_one (n := n) (by omega) (fun i hi => e i (by omega)), e n (by omega) (fun z => c z.symm), Nat.add_zero]
theorem it_congr {a b : Prop} [Decidable a] [Decidable b] (h : a ↔ b) : it a = it b := by
  unfold it
  by_cases c : a
  · rw [if_pos c, if_pos (h.mp c)]
  · rw [if_neg c, if_neg (fun z => c (h.mpr z))]
/-- jars that a row holds, by their numbers -/
theorem sum_mem {p : Nat → Prop} [DecidablePred p] : ∀ {l : List Int32}, allOk l → l.Nodup → sumN (fun i => it (nI i ∈ l ∧ p i)) 30 = l.countP (fun x => decide (p (ix x)))
  | [], _, _ => sumN_0 (fun i _ => it_f (fun z => by simp at z))
  | a :: l, ho, hd => by
    obtain ⟨j, hj, rfl⟩ := ho a List.mem_cons_self
    obtain ⟨d1, d2⟩ := List.nodup_cons.mp hd
    have e : ∀ i, i < 30 → it (nI i ∈ nI j :: l ∧ p i) = it (i = j ∧ p i) + it (nI i ∈ l ∧ p i) := fun i hi => by
      by_cases c : i = j
      · subst c
        rw [it_f (p := nI i ∈ l ∧ p i) (fun z => d1 z.1), Nat.add_zero]
        exact it_congr ⟨fun z => ⟨rfl, z.2⟩, fun z => ⟨List.mem_cons_self, z.2⟩⟩
      · rw [it_f (p := i = j ∧ p i) (fun z => c z.1), Nat.zero_add]
        exact it_congr ⟨fun z => ⟨(List.mem_cons.mp z.1).elim (fun z => absurd ((nI_eq (by omega) (by omega)).mp z) c) id, z.2⟩, fun z => ⟨List.mem_cons_of_mem _ z.1, z.2⟩⟩
    rw [sumN_congr e, sumN_add, sum_mem (fun y hy => ho y (List.mem_cons_of_mem _ hy)) d2, List.countP_cons, ix_nI hj, sumN_one (j := j) hj (fun i _ hi => it_f (fun z => hi z.1))]
    by_cases c : p j
    · rw [it_t ⟨rfl, c⟩, decide_eq_true c]; simp only [if_true]; omega
    · rw [it_f (fun z => c z.2), decide_eq_false c]; simp
/-! rows in the order of a clock -/
def srt (S : Nat → Nat) (l : List Int32) : Prop := l.Pairwise (fun x y => S (ix y) < S (ix x))
theorem srt_nd {S : Nat → Nat} {l : List Int32} (h : srt S l) : l.Nodup := List.Pairwise.imp (fun {a b} (z : S (ix b) < S (ix a)) (e : a = b) => by rw [e] at z; exact Nat.lt_irrefl _ z) h
theorem srt_nil {S : Nat → Nat} : srt S [] := List.Pairwise.nil
theorem srt_sub {S : Nat → Nat} {l k : List Int32} (h : srt S l) (hs : List.Sublist k l) : srt S k := List.Pairwise.sublist hs h
theorem srt_congr {S T : Nat → Nat} {l : List Int32} (h : srt S l) (e : ∀ x, x ∈ l → T (ix x) = S (ix x)) : srt T l :=
  List.Pairwise.imp_of_mem (fun {a b} ha hb (z : S (ix b) < S (ix a)) => by rw [e a ha, e b hb]; exact z) h
theorem srt_cons {S : Nat → Nat} {l : List Int32} {x : Int32} (h : srt S l) (hx : ∀ y, y ∈ l → S (ix y) < S (ix x)) : srt S (x :: l) := List.pairwise_cons.mpr ⟨hx, h⟩
theorem srt_lst {S : Nat → Nat} {l : List Int32} (h : srt S l) (h0 : 0 < l.length) : ∀ y, y ∈ l → y = lst l ∨ S (ix (lst l)) < S (ix y) := fun y hy => by
  have e := dl_lst h0
  have h2 : srt S (l.dropLast ++ [lst l]) := by rw [← e]; exact h
  have hy2 : y ∈ l.dropLast ++ [lst l] := by rw [← e]; exact hy
  rcases List.mem_append.mp hy2 with z | z
  · exact Or.inr ((List.pairwise_append.mp h2).2.2 y z (lst l) (List.mem_singleton.mpr rfl))
  · exact Or.inl (List.mem_singleton.mp z)
theorem srt_idx {S : Nat → Nat} {j : Nat} : ∀ {l : List Int32}, srt S l → nI j ∈ l → j < 30 → l.countP (fun x => decide (S j < S (ix x))) = l.idxOf (nI j)
  | [], _, h, _ => by simp at h
  | a :: l, hs, h, hj => by
    obtain ⟨s1, s2⟩ := List.pairwise_cons.mp hs
    rw [List.countP_cons, List.idxOf_cons]
    by_cases c : a = nI j
    · subst c
      have e : l.countP (fun x => decide (S j < S (ix x))) = 0 := List.countP_eq_zero.mpr (fun y hy => by
        have := s1 y hy
        rw [ix_nI hj] at this
        simp only [decide_eq_true_eq]
        omega)
      rw [e, ix_nI hj]
      simp
    · have hm : nI j ∈ l := (List.mem_cons.mp h).elim (fun z => absurd z.symm c) id
      have := s1 (nI j) hm
      rw [ix_nI hj] at this
      have c2 : (a == nI j) = false := by simpa using c
      rw [srt_idx s2 hm hj, c2, decide_eq_true this]
      simp
/-! the last one of a row, as the law looks for it -/
def lsf (c : Nat → Bool) (fb : Nat → Int32) : Nat → Int32
  | 0 => -1
  | n + 1 => if c n = true ∧ (lsf c fb n < 0 ∨ fb n < fb (ix (lsf c fb n))) then nI n else lsf c fb n
theorem lsf_cases {c : Nat → Bool} {fb : Nat → Int32} : ∀ (n : Nat), lsf c fb n = -1 ∨ ∃ b, b < n ∧ lsf c fb n = nI b
  | 0 => Or.inl rfl
  | n + 1 => by
    unfold lsf
    split
    · exact Or.inr ⟨n, Nat.lt_succ_self _, rfl⟩
    · rcases lsf_cases (c := c) (fb := fb) n with h | ⟨b, hb, h⟩
      · exact Or.inl h
      · exact Or.inr ⟨b, by omega, h⟩
theorem lsf_t {c : Nat → Bool} {fb : Nat → Int32} {n : Nat} (h : c n = true) (h2 : lsf c fb n < 0 ∨ fb n < fb (ix (lsf c fb n))) : lsf c fb (n + 1) = nI n := if_pos ⟨h, h2⟩
theorem lsf_f {c : Nat → Bool} {fb : Nat → Int32} {n : Nat} (h : c n = false) : lsf c fb (n + 1) = lsf c fb n := if_neg (fun z => by rw [h] at z; exact absurd z.1 (by decide))
theorem lsf_g {c : Nat → Bool} {fb : Nat → Int32} {n : Nat} (h : ¬ (lsf c fb n < 0 ∨ fb n < fb (ix (lsf c fb n)))) : lsf c fb (n + 1) = lsf c fb n := if_neg (fun z => h z.2)
theorem m1_lt : (-1 : Int32) < 0 := by decide
theorem lsf_inv {c : Nat → Bool} {fb : Nat → Int32} {S : Nat → Nat} {ck : Nat} (hck : ck < 2 ^ 31) (hb : ∀ j, j < 30 → fb j = nI (S j) ∧ S j ≤ ck) : ∀ (n : Nat), n ≤ 30 → (lsf c fb n = -1 ∧ ∀ j, j < n → c j = false) ∨ ∃ b, b < n ∧ lsf c fb n = nI b ∧ c b = true ∧ ∀ j, j < n → c j = true → S b ≤ S j
  | 0, _ => Or.inl ⟨rfl, fun j h => absurd h (Nat.not_lt_zero _)⟩
  | n + 1, hn => by
    rcases lsf_inv (c := c) hck hb n (by omega) with ⟨h1, h2⟩ | ⟨b, h1, h2, h3, h4⟩
    · cases hc : c n with
      | false =>
        refine Or.inl ⟨(lsf_f hc).trans h1, fun j hj => ?_⟩
        by_cases z : j = n
        · rw [z]; exact hc
        · exact h2 j (by omega)
      | true =>
        refine Or.inr ⟨n, Nat.lt_succ_self _, lsf_t hc (Or.inl (by rw [h1]; exact m1_lt)), hc, fun j hj z => ?_⟩
        by_cases z2 : j = n
        · rw [z2]; exact Nat.le_refl _
        · rw [h2 j (by omega)] at z; exact absurd z (by decide)
    · have g1 := hb n (by omega)
      have g2 := hb b (by omega)
      have hnn : ¬ lsf c fb n < 0 := by rw [h2]; exact nI_pos (by omega)
      have hix : ix (lsf c fb n) = b := by rw [h2]; exact ix_nI (by omega)
      cases hc : c n with
      | false =>
        refine Or.inr ⟨b, by omega, (lsf_f hc).trans h2, h3, fun j hj z => ?_⟩
        by_cases z2 : j = n
        · rw [z2, hc] at z; exact absurd z (by decide)
        · exact h4 j (by omega) z
      | true =>
        by_cases hlt : S n < S b
        · refine Or.inr ⟨n, Nat.lt_succ_self _, lsf_t hc (Or.inr (by rw [hix, g1.1, g2.1]; exact (nI_ltI (by omega) (by omega)).mpr hlt)), hc, fun j hj z => ?_⟩
          by_cases z2 : j = n
          · rw [z2]; exact Nat.le_refl _
          · have := h4 j (by omega) z
            omega
        · refine Or.inr ⟨b, by omega, (lsf_g (fun z => z.elim hnn (fun z => by rw [hix, g1.1, g2.1] at z; exact hlt ((nI_ltI (by omega) (by omega)).mp z)))).trans h2, h3, fun j hj z => ?_⟩
          by_cases z2 : j = n
          · rw [z2]; omega
          · exact h4 j (by omega) z
theorem lsf_lst {c : Nat → Bool} {fb : Nat → Int32} {S : Nat → Nat} {ck : Nat} {l : List Int32} (hck : ck < 2 ^ 31) (hb : ∀ j, j < 30 → fb j = nI (S j) ∧ S j ≤ ck) (hc : ∀ j, j < 30 → (c j = true ↔ nI j ∈ l)) (hs : srt S l) (ho : allOk l) (h0 : 0 < l.length) : lsf c fb 30 = lst l := by
  have hm := lst_mem h0
  obtain ⟨k, hk, ek⟩ := ho _ hm
  rw [ek] at hm
  rcases lsf_inv (c := c) hck hb 30 (Nat.le_refl _) with ⟨h1, h2⟩ | ⟨b, h1, h2, h3, h4⟩
  · have := h2 k hk
    rw [(hc k hk).mpr hm] at this
    exact absurd this (by decide)
  · have h5 := h4 k hk ((hc k hk).mpr hm)
    rcases srt_lst hs h0 (nI b) ((hc b h1).mp h3) with z | z
    · rw [h2, z]
    · rw [ek, ix_nI hk, ix_nI h1] at z
      omega
