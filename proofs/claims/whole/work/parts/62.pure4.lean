/-! mean and digest -/
def mnOk (r : UInt64) (a h : Int32) : Prop := if a = 0 then r = FP.dconst0 else alike64 r (FP.ddiv (FP.i2d h) (FP.i2d a)) = true
theorem mn_0 {a h : Int32} (z : a = 0) : mnOk FP.dconst0 a h := by unfold mnOk; rw [if_pos z]
theorem mn_1 {r : UInt64} {a h : Int32} (z : ¬ a = 0) (hr : alike64 r (FP.ddiv (FP.i2d h) (FP.i2d a)) = true) : mnOk r a h := by unfold mnOk; rw [if_neg z]; exact hr
def dg (d : Int64) (x : Int32) : Int64 := d * 31 + x.toInt64
def dgl (d : Int64) (l : List Int32) : Int64 := l.foldl dg d
theorem dgl_snoc {d : Int64} {l : List Int32} {k : Nat} (h : k < l.length) : dg (dgl d (l.take k)) (l.getD k 0) = dgl d (l.take (k + 1)) := by
  rw [take_snoc h]
  unfold dgl
  rw [List.foldl_append]
  rfl
def dgk (K T : Nat → Int32) : Nat → Int64 → Int64
  | 0, d => d
  | n + 1, d => dg (dg (dgk K T n d) (K n)) (T n)
def dgc (c : Nat) (M : List Int32) (s : St) : Int64 := dg (dg (dg (dg (dg (dg (dg (dg (dg (dg (dg (dg 1427 (nI c)) (nI s.1.1.length)) (nI s.1.2.1.length)) (nI s.1.2.2.1.length)) (nI s.1.2.2.2.length)) (nI s.2.1.length)) (nI M.length)) (nI s.2.2.1)) s.2.2.2.1) s.2.2.2.2.1) s.2.2.2.2.2.1) s.2.2.2.2.2.2.1
def dgs (c : Nat) (M : List Int32) (s : St) : Int64 := dgk s.2.2.2.2.2.2.2.1 s.2.2.2.2.2.2.2.2 30 (dgl (dgl (dgl (dgl (dgl (dgl (dgc c M s) s.1.1) s.1.2.1) s.1.2.2.1) s.1.2.2.2) s.2.1) M)
theorem lg_0 {d : Int64} {l : List Int32} : dgl d (l.take 0) = d := by simp [dgl]
