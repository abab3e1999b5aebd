/-! mean and digest -/
def mnOk (r : UInt64) (a h : Int32) : Prop := if a = 0 then r = FP.dconst0 else alike64 r (FP.ddiv (FP.i2d h) (FP.i2d a)) = true
theorem mn_0 {a h : Int32} (z : a = 0) : mnOk FP.dconst0 a h := by unfold mnOk; rw [if_pos z]
theorem mn_1 {r : UInt64} {a h : Int32} (z : ¬ a = 0) (hr : alike64 r (FP.ddiv (FP.i2d h) (FP.i2d a)) = true) : mnOk r a h := by unfold mnOk; rw [if_neg z]; exact hr
/-! two doubles that are alike the same one -/
theorem nan_val {a : UInt64} (h : isNaN64 a = true) : FP.Core.val64 a = .nan := by
  rw [isNaN64_iff] at h
  have e : a.toNat &&& 0x7fffffffffffffff = a.toNat % 2 ^ 63 := Nat.and_two_pow_sub_one_eq_mod a.toNat 63
  rw [e] at h
  have h1 : FP.Core.fieldE FP.Core.b64 a.toNat = 2047 := by
    show a.toNat / 2 ^ 52 % 2 ^ 11 = 2047
    omega
  have h2 : ¬ FP.Core.fieldT FP.Core.b64 a.toNat = 0 := by
    show ¬ a.toNat % 2 ^ 52 = 0
    omega
  show FP.Core.decode FP.Core.b64 a.toNat = .nan
  unfold FP.Core.decode
  rw [if_pos (show FP.Core.fieldE FP.Core.b64 a.toNat = FP.Core.b64.exps - 1 from h1), if_neg h2]
theorem add_sub9 (a b : Int32) : a + b - a = b := by
  rw [Int32.sub_eq_add_neg, Int32.add_comm a b, Int32.add_assoc, Int32.add_right_neg, Int32.add_zero]
theorem getD_idx {l : List Int32} {x : Int32} (h : x ∈ l) : l.getD (l.idxOf x) 0 = x := by
  have h2 := idx_lt h
  rw [List.getD_eq_getElem?_getD, List.getElem?_eq_getElem h2]
  simp
theorem place_k {fa fb : Nat → Int32} {ck : Nat} {q : Q4} (h : SQ fa fb ck q) (hck : ck < 2 ^ 31) {j k : Nat} (hj : j < 30) (hw : whr q (nI j) = k) (hk : 1 ≤ k) : plF fa fb j 30 = (rowQ q k).idxOf (nI j) := by
  have e := place_eq h hck hj (by omega)
  rw [hw] at e
  exact e
theorem mean_eq {a b : UInt64} {x y : Int32} (h1 : mnOk a x y) (h2 : mnOk b x y) : Op.cmpValue (FP.dcmp a b) .l = nI 0 := by
  unfold mnOk at h1 h2
  by_cases z : x = 0
  · rw [if_pos z] at h1 h2
    rw [h1, h2]
    decide +kernel
  · rw [if_neg z] at h1 h2
    have hn : FP.Core.dIsNaN (FP.Core.ddiv (FP.Core.i2d y) (FP.Core.i2d x)) = false := FP.Core.ddiv_out (FP.Core.DFin.notNaN (FP.Core.i2d_fin y)) (FP.Core.i2d_fin x) (fun w => FP.Core.i2d_ne_zero z ((FP.Core.zero_bits2 _).mp w))
    have hv : ¬ isNaN64 (FP.ddiv (FP.i2d y) (FP.i2d x)) = true := fun w => by
      have e2 : FP.Core.dIsNaN (FP.Core.ddiv (FP.Core.i2d y) (FP.Core.i2d x)) = true := (FP.Core.dIsNaN_iff _).mpr (nan_val w)
      rw [hn] at e2
      cases e2
    simp only [alike64, Bool.or_eq_true, Bool.and_eq_true, decide_eq_true_eq] at h1 h2
    have ha : a = FP.ddiv (FP.i2d y) (FP.i2d x) := h1.elim id (fun w => absurd w.2 hv)
    have hb : b = FP.ddiv (FP.i2d y) (FP.i2d x) := h2.elim id (fun w => absurd w.2 hv)
    rw [ha, hb]
    have e : FP.Core.dcmp (FP.Core.ddiv (FP.Core.i2d y) (FP.Core.i2d x)) (FP.Core.ddiv (FP.Core.i2d y) (FP.Core.i2d x)) = some .eq := FP.Core.dcmp_refl hn
    show Op.cmpValue (FP.Core.dcmp (FP.Core.ddiv (FP.Core.i2d y) (FP.Core.i2d x)) (FP.Core.ddiv (FP.Core.i2d y) (FP.Core.i2d x))) .l = nI 0
    rw [e]
    rfl
section
variable {p : Program} {l : Launch} {e : Env} {R : Room} {s : State} {m : MethodId} {args : Array Value} {below : List Frame} {meth : Method} {c : Code} {H : Heap} {locs : List Loc} {cells slots : Nat} {Q : State → Prop} {g : JFrame}
theorem g_unbase (k : W p l e R s m args below meth c H locs cells slots Q g) : W p l e R (s.setDrawn s.drawn) m args below meth c H locs cells slots Q g := k
end
