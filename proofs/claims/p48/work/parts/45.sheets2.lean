/-! THE REFERENCE'S CALLS: a sheet made -/
section S45
variable {sS sZ : Nat → Nat} {sN : Nat → Nat → Int32} {h h' : AH}
abbrev isSort (x : Int32) : Prop := -nI 1 ≤ x ∧ x ≤ nI 1
theorem isSort.ex {x : Int32} (q : isSort x) : ∃ k, k < 3 ∧ x = srW k := by
  have a := Int32.le_iff_toInt_le.mp q.1
  have b := Int32.le_iff_toInt_le.mp q.2
  rw [show (-nI 1 : Int32).toInt = -1 by decide] at a
  rw [show (nI 1 : Int32).toInt = 1 by decide] at b
  have e : ∀ k, k < 3 → (srW k).toInt = (k : Int) - 1 := by decide
  refine ⟨(x.toInt + 1).toNat, by omega, Int32.toInt.inj ?_⟩
  rw [e _ (by omega)]
  omega
end S45
