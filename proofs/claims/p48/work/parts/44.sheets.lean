/-! THE REFERENCE'S CALLS: sheets -/
/-- a sheet's sort as a word: 0 none, 1 yes or no, 2 numbers -/
abbrev srW (x : Nat) : Int32 := nI x - nI 1
section S44
variable {sS sZ : Nat → Nat} {sN : Nat → Nat → Int32} {h h' : AH}
end S44
