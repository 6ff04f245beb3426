/-! THE REFERENCE'S CALLS: settled -/
section S41
variable {c n np nr : Nat} {K P B T C : Nat → Nat} {U : Nat → Nat → Nat} {V W : Nat → Int} {h h' : AH}
abbrev muchP (c n : Nat) (K P B : Nat → Nat) (p : Nat) : Prop := 729 < v_much c n K P B p (v_sM c n K P B p)
abbrev bestP (c n : Nat) (K P B : Nat → Nat) (ch : Nat → Nat → Nat → Nat) (U : Nat → Nat → Nat) (V W : Nat → Int) (nr p : Nat) : Prop := (v_rep c n K P B ch U V W nr p).1 = sumZ (v_sumf c n K P B ch U V W nr 3 p) (v_ways c K B n)
/-- what the check that nobody can do better answers -/
def isSettled (c n : Nat) (K P B : Nat → Nat) (ch : Nat → Nat → Nat → Nat) (U : Nat → Nat → Nat) (V W : Nat → Int) (nr : Nat) (r : Int32) : Prop := ((∃ p, p < 3 ∧ muchP c n K P B p) ∧ r = -nI 5) ∨ ((∀ p, p < 3 → ¬ muchP c n K P B p) ∧ (∀ p, p < 3 → bestP c n K P B ch U V W nr p) ∧ r = nI 1) ∨ ((∀ p, p < 3 → ¬ muchP c n K P B p) ∧ (∃ p, p < 3 ∧ ¬ bestP c n K P B ch U V W nr p) ∧ r = nI 0)
end S41
