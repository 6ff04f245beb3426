/-! THE REFERENCE'S CALLS: means, replies, the stake raised -/
section S39
variable {c n np nr : Nat} {K P B T C : Nat → Nat} {U : Nat → Nat → Nat} {V W : Nat → Int} {h h' : AH}
abbrev isBy (b : Int64) : Prop := lN 1 ≤ b ∧ b ≤ lN 1000000000
theorem isBy.ex {b : Int64} (q : isBy b) : ∃ k, b = lN k ∧ 1 ≤ k ∧ k ≤ 1000000000 := by
  have a1 := Int64.le_iff_toInt_le.mp q.1
  have a2 := Int64.le_iff_toInt_le.mp q.2
  rw [pk_lT (by decide)] at a1 a2
  refine ⟨b.toInt.toNat, Int64.toInt_inj.mp ?_, by omega, by omega⟩
  rw [pk_lT (by omega)]
  omega
def v_mean (A : Int) (D sk : Nat) (part : Int32) : Int64 := if lI A / lN (Nat.gcd A.natAbs D) = lN 0 then part.toInt64 else if v_fit (lI A / lN (Nat.gcd A.natAbs D)) (sk / Nat.gcd sk (D / Nat.gcd A.natAbs D)) then (if part = nI 0 then lI A / lN (Nat.gcd A.natAbs D) * lN (sk / Nat.gcd sk (D / Nat.gcd A.natAbs D)) else lN (D / Nat.gcd A.natAbs D / Nat.gcd sk (D / Nat.gcd A.natAbs D))) else lNO 5
def a_mean (c n : Nat) (K P B : Nat → Nat) (ch : Nat → Nat → Nat → Nat) (U : Nat → Nat → Nat) (V W : Nat → Int) (nr sk : Nat) (p part : Int32) : Int64 := if isPl p ∧ isPt part then v_mean (sumZ (v_sumf c n K P B ch U V W nr 3 (ix p)) (v_ways c K B n)) (v_chn c K B n) sk part else lNO 2
end S39
