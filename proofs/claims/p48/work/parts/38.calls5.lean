/-! THE REFERENCE'S CALLS: rules, pay, the stake -/
section S38
variable {c n np nr : Nat} {K P B T C : Nat → Nat} {U : Nat → Nat → Nat} {V W : Nat → Int} {h h' : AH}
def a_pay (c n : Nat) (K B : Nat → Nat) (nr : Nat) (U : Nat → Nat → Nat) (V W : Nat → Int) (sk : Nat) (p w : Int32) : Int64 := if isPl p ∧ isLt (v_ways c K B n) w then (if v_fit (lI (v_pay U V W c n (v_what c K B n (ix w)) (ix p) nr)) sk then lI (v_pay U V W c n (v_what c K B n (ix w)) (ix p) nr) * lN sk else lNO 5) else lNO 2
end S38
