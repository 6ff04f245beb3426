/-! THE REFERENCE'S CALLS: what hands hold -/
/-- a place among n as a long -/
abbrev isLtL (n : Nat) (v : Int64) : Prop := lN 0 ≤ v ∧ v ≤ (nI n - nI 1).toInt64
theorem isLtL.ex {n : Nat} (hn : n < 100) {v : Int64} (q : isLtL n v) : ∃ k, k < n ∧ v = lN k ∧ ix v.toInt32 = k := by
  have h1 := Int64.le_iff_toInt_le.mp q.1
  have h2 := Int64.le_iff_toInt_le.mp q.2
  have e0 : (lN 0).toInt = 0 := by decide
  have e1 : ∀ n, n < 100 → (nI n - nI 1).toInt64.toInt = (n : Int) - 1 := by decide +kernel
  rw [e0] at h1
  rw [e1 n hn] at h2
  have e2 : v = lN v.toInt.toNat := by
    apply Int64.toInt.inj
    have := (lN_toInt (n := v.toInt.toNat) (by omega))
    rw [this]
    omega
  refine ⟨v.toInt.toNat, by omega, e2, ?_⟩
  have e3 : v.toInt32 = nI v.toInt.toNat := by
    rw [e2]
    have e4 : ∀ n, n < 100 → (lN n).toInt32 = nI n := by decide +kernel
    rw [e4 _ (by omega)]
    have := (lN_toInt (n := v.toInt.toNat) (by omega))
    rw [this]
    rfl
  rw [e3, ix_nI (by omega)]
section S49
variable {c n np nr : Nat} {K P B T C : Nat → Nat} {U : Nat → Nat → Nat} {V W : Nat → Int} {hs hk : Nat → Nat} {hU : Nat → Nat → Nat → Nat} {hW : Nat → Nat → Int} {hv : Nat → Int64} {h h' : AH}
end S49
