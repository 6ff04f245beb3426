/-! THE REFERENCE'S CALLS: stages, ways, views. What they answer -/
abbrev isPl (p : Int32) : Prop := nI 0 ≤ p ∧ p ≤ nI 2
abbrev isPt (p : Int32) : Prop := nI 0 ≤ p ∧ p ≤ nI 1
abbrev isLt (n : Nat) (i : Int32) : Prop := nI 0 ≤ i ∧ i < nI n
abbrev isLe (n : Nat) (i : Int32) : Prop := nI 0 ≤ i ∧ i ≤ nI n
theorem isPl.ex {p : Int32} (h : isPl p) : ∃ k, k < 3 ∧ p = nI k := by
  obtain ⟨k, a, b⟩ := nI_of3 (by decide) h.1 h.2
  exact ⟨k, by omega, b⟩
theorem isLe.ex {n : Nat} {p : Int32} (hn : n < 2 ^ 31) (h : isLe n p) : ∃ k, k ≤ n ∧ p = nI k := nI_of3 hn h.1 h.2
theorem isLt.ex {n : Nat} {p : Int32} (hn : n < 2 ^ 31) (h : isLt n p) : ∃ k, k < n ∧ p = nI k := by
  obtain ⟨k, a, b⟩ := nI_of3 hn h.1 (Int32.le_of_lt h.2)
  refine ⟨k, ?_, b⟩
  rw [b] at h
  exact (nI_ltI (by omega) hn).mp h.2
theorem isLt_nI {n k : Nat} (hn : n < 2 ^ 31) (hk : k < 2 ^ 31) : isLt n (nI k) ↔ k < n := ⟨fun h => (nI_ltI hk hn).mp h.2, fun h => ⟨nI_le (Nat.zero_le _) hk, nI_lt h hn⟩⟩
theorem isLe_nI {n k : Nat} (hn : n < 2 ^ 31) (hk : k < 2 ^ 31) : isLe n (nI k) ↔ k ≤ n := ⟨fun h => (nI_leI hk hn).mp h.2, fun h => ⟨nI_le (Nat.zero_le _) hk, nI_le h hn⟩⟩
theorem v_at_0 (q : Nat → Bool) (k : Nat) : v_at q 0 k = k := rfl
section S34
variable {c n np nr : Nat} {K P B T C : Nat → Nat} {h h' : AH}
def a_seen (n : Nat) (K P : Nat → Nat) (i j : Int32) : Int32 := if isLe n j ∧ isLt (ix j) i then nI (v_seen K P (ix i) (ix j)) else -nI 2
def a_ways (c n : Nat) (K B : Nat → Nat) (j : Int32) : Int32 := if isLe n j then nI (v_ways c K B (ix j)) else -nI 2
def a_happened (c n : Nat) (K B : Nat → Nat) (w i : Int32) : Int32 := if isLt (v_ways c K B n) w ∧ isLt n i then nI (v_what c K B n (ix w) (ix i)) else -nI 2
def a_view (c n : Nat) (K P B : Nat → Nat) (p w j : Int32) : Int32 := if isPl p ∧ isLt (v_ways c K B n) w ∧ isLe n j then nI (v_pv c K P B (ix p) n (ix w) (ix j)) else -nI 2
def a_worlds (c n : Nat) (K P B : Nat → Nat) (p j v : Int32) : Int32 := if isPl p ∧ isLe n j then nI (cntN (fun w => decide ((nI (v_vw c K P B (ix p) (ix j) w)).toInt64 = v.toInt64)) (v_ways c K B (ix j))) else -nI 2
/-- which of the ways alike is at a place: the number of ways where none is -/
def v_nth (q : Nat → Bool) (m k : Nat) : Nat := v_at (fun w => q w && decide (cntN q w = k)) m 0
def a_world (c n : Nat) (K P B : Nat → Nat) (p j v k : Int32) : Int32 := if isPl p ∧ isLe n j then (if k < nI 0 then -nI 12 else if v_nth (fun w => decide (nI (v_vw c K P B (ix p) (ix j) w) = v)) (v_ways c K B (ix j)) (ix k) = v_ways c K B (ix j) then -nI 12 else nI (v_nth (fun w => decide (nI (v_vw c K P B (ix p) (ix j) w) = v)) (v_ways c K B (ix j)) (ix k))) else -nI 2
/-- a call refused with a long -/
abbrev lNO (k : Nat) : Int64 := -lN 4611686018427387904 + (-nI k).toInt64
/-- a part of a fraction in lowest terms -/
abbrev v_all (c n : Nat) (K P B : Nat → Nat) (ch : Nat → Nat → Nat → Nat) (p j : Nat) (v : Int32) (w : Nat) : Bool := decide (nI (v_vw c K P B p j w) = v) && v_pl K P ch 3 (v_what c K B j w) j
abbrev v_tho (c n : Nat) (K P B : Nat → Nat) (ch : Nat → Nat → Nat → Nat) (p j : Nat) (v : Int32) (i : Nat) (e : Int32) (w : Nat) : Bool := v_all c n K P B ch p j v w && decide (nI (v_what c K B j w i) = e)
def v_oddsA (all tho : Nat) (part : Int32) : Int64 := if all = 0 then lNO 1 else if part = nI 0 then lN (tho / Nat.gcd tho all) else lN (all / Nat.gcd tho all)
def a_odds (c n : Nat) (K P B : Nat → Nat) (ch : Nat → Nat → Nat → Nat) (p j v i e part : Int32) : Int64 := if isPl p ∧ isLe n j ∧ isLt (ix j) i ∧ isPt part then v_oddsA (cntN (v_all c n K P B ch (ix p) (ix j) v) (v_ways c K B (ix j))) (cntN (v_tho c n K P B ch (ix p) (ix j) v (ix i) e) (v_ways c K B (ix j))) part else lNO 2
end S34
