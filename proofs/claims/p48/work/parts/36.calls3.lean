/-! THE REFERENCE'S CALLS: sets, recall, plans -/
section S36
variable {c n np nr : Nat} {K P B T C : Nat → Nat} {h h' : AH}
noncomputable def a_sets (c n : Nat) (K P B : Nat → Nat) (p : Int32) : Int32 := if isPl p then nI (v_sM c n K P B (ix p)) else -nI 2
noncomputable def a_setOf (c n : Nat) (K P B : Nat → Nat) (ch : Nat → Nat → Nat → Nat) (p t w : Int32) : Int32 := if isPl p ∧ isLe 3 w then (if isLt (v_sM c n K P B (ix p)) t then (if w = nI 0 then nI (v_sJ c n K P B (ix p) (ix t)) else if w = nI 1 then nI (v_sV c n K P B (ix p) (ix t)) else if w = nI 2 then nI (cntN (fun x => decide ((nI (v_vw c K P B (ix p) (v_sJ c n K P B (ix p) (ix t)) x)).toInt64 = (nI (v_sV c n K P B (ix p) (ix t))).toInt64)) (v_ways c K B (v_sJ c n K P B (ix p) (ix t)))) else nI (ch (ix p) (v_sJ c n K P B (ix p) (ix t)) (v_sV c n K P B (ix p) (ix t)))) else -nI 12) else -nI 2
end S36
