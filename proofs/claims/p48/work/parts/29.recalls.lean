/-! RECALL: whether who comes to a set knows always what they once knew and chose -/
/-- a player's view at an earlier stage of a way behind j stages -/
abbrev v_pv (c : Nat) (K P B : Nat → Nat) (p j w i : Nat) : Nat := v_view K P p i (v_what c K B j w) i
section S29
variable {c n np : Nat} {K P B T C : Nat → Nat} {h h' : AH}
end S29
