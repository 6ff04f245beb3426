/-! THE REFERENCE'S CALLS: a rule put -/
section S43
variable {c n np nr : Nat} {U : Nat → Nat → Nat} {V W : Nat → Int} {h h' : AH}
abbrev ruleOk (t x y a b m v : Int32) : Prop := isLe 4 t ∧ isLe 7 x ∧ isLe 7 y ∧ isPl a ∧ isPl b ∧ a ≠ b ∧ isLe 4 m ∧ -nI 99 ≤ v ∧ v ≤ nI 99
def v_ru (t x y a b m : Nat) : Nat → Nat := fun f => if f = 0 then t else if f = 1 then x else if f = 2 then y else if f = 3 then a else if f = 4 then b else m
def a_rule (nr : Nat) (t x y a b m v : Int32) : Int32 := if ruleOk t x y a b m v then (if nr = 8 then -nI 4 else nI nr) else -nI 2
abbrev isRule (nr : Nat) (t x y a b m v : Int32) : Prop := ruleOk t x y a b m v ∧ nr ≠ 8
end S43
