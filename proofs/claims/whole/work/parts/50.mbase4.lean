/-- the best room, room after room: the best so far, and how many were there with it -/
def bstS (p : Int32 × Int32) (r : Nat) (h : Nat) : Int32 × Int32 := if p.2 < nI h then (nI r, nI h) else p
def bst (M : List Int32) (tm : Nat) : Nat → Int32 × Int32
  | 0 => (-1, -1)
  | r + 1 => bstS (bst M tm r) (r + 1) (foldQ (r + 1) (rep tm M) ((([], [], [], []) : Q4), 0, 0)).2.2
theorem em_ok {c : Nat} {a h p m : Int32} {K T : Nat → Int32} (h1 : 1 ≤ c) (h2 : c ≤ 12) : StOk c (([], [], [], []), [], 0, a, h, p, m, K, T) :=
  ⟨⟨h1, h2, Nat.zero_le _, Nat.zero_le _, Nat.zero_le _, Nat.zero_le _⟩, ⟨ok_nil, ok_nil, ok_nil, ok_nil⟩, Nat.zero_le _, ok_nil⟩
section
variable {p : Program} {l : Launch} {e : Env} {R : Room} {s : State} {m : MethodId} {args : Array Value} {below : List Frame} {meth : Method} {c : Code} {H : Heap} {locs : List Loc} {cells slots : Nat} {Q : State → Prop}
variable {pc : Nat} {st : List Value} {ls0 : Array Slot}
theorem g_joinl {P : Array Slot → Prop} {tgt : Nat} {r1 : List Value} (k1 : (∀ ls, P ls → W p l e R s m args below meth c H locs cells slots Q (F0 m tgt ls r1)) → W p l e R s m args below meth c H locs cells slots Q (F0 m pc ls0 st)) (k2 : ∀ ls, P ls → W p l e R s m args below meth c H locs cells slots Q (F0 m tgt ls r1)) : W p l e R s m args below meth c H locs cells slots Q (F0 m pc ls0 st) := k1 k2
end
