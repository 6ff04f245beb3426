/-! THE REFERENCE'S CALLS: feed, racks, count -/
theorem updN_self {α : Type} (f : Nat → α) (k : Nat) : updN f k (f k) = f := funext fun i => by
  by_cases q : i = k
  · rw [q, updN_s]
  · rw [updN_o q]
section S48
variable {c n np nr tn : Nat} {K P B T C : Nat → Nat} {tb : Nat → Int32} {rl : Nat → Nat} {rF rK rP rB : Nat → Nat → Nat} {h h' : AH}
def a_count (c n np nr sk : Nat) (w : Int32) : Int64 := if w = nI 0 then lN c else if w = nI 1 then lN n else if w = nI 2 then lN np else if w = nI 3 then lN nr else if w = nI 4 then lN sk else lNO 2
end S48
