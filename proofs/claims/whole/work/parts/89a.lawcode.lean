/-! the rows of the law's table are what its bytes say -/
def tl_f (q : mc_R) : Bool := decide (decode code q.1 = .ok (q.2.1, q.2.2.1)) && mc_ok 7 q.1 q.2.1 q.2.2.1 q.2.2.2.1 q.2.2.2.2
theorem all_cut {α : Type} {f : α → Bool} {l : List α} (n : Nat) (h1 : (l.take n).all f = true) (h2 : (l.drop n).all f = true) : l.all f = true := by
  rw [← List.take_append_drop n l, List.all_append, h1, h2]
  rfl
