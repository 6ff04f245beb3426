/-! THE REFERENCE'S CALLS: better -/
section S42
variable {c n np nr : Nat} {K P B T C : Nat → Nat} {U : Nat → Nat → Nat} {V W : Nat → Int} {h h' : AH}
abbrev PT : Type := Nat × (Nat → Nat) × (Nat → Nat)
/-- told where there is room -/
def v_tl1 (x : PT) (p j v y : Nat) : PT := if v_pat x.1 x.2.1 p j v < 40 then (v_tn x.1 x.2.1 p j v, updN x.2.1 (v_pat x.1 x.2.1 p j v) (v_key p j v), updN x.2.2 (v_pat x.1 x.2.1 p j v) y) else x
/-- the first sets told -/
noncomputable def v_tla (c n : Nat) (K P B : Nat → Nat) (p : Nat) (y : Nat → Nat) : Nat → PT → PT
  | 0, x => x
  | t + 1, x => v_tl1 (v_tla c n K P B p y t x) p (v_sJ c n K P B p t) (v_sV c n K P B p t) (y t)
/-- sets for which no plan is told -/
noncomputable abbrev v_new (c n : Nat) (K P B : Nat → Nat) (np : Nat) (T : Nat → Nat) (p t : Nat) : Bool := decide (v_pat np T p (v_sJ c n K P B p t) (v_sV c n K P B p t) = np)
/-- sets in which the plans choose otherwise -/
noncomputable abbrev v_oth (c n : Nat) (K P B : Nat → Nat) (ch : Nat → Nat → Nat → Nat) (y : Nat → Nat) (p t : Nat) : Bool := decide (ch p (v_sJ c n K P B p t) (v_sV c n K P B p t) ≠ y t)
/-- what it answers; it tells only where isBetter -/
noncomputable def a_better (c n : Nat) (K P B : Nat → Nat) (ch : Nat → Nat → Nat → Nat) (U : Nat → Nat → Nat) (V W : Nat → Int) (nr np : Nat) (T : Nat → Nat) (p : Int32) : Int32 := if isPl p then (if muchP c n K P B (ix p) then -nI 5 else if np + cntN (v_new c n K P B np T (ix p)) (v_sM c n K P B (ix p)) ≤ 40 then nI (cntN (v_oth c n K P B ch (v_rep c n K P B ch U V W nr (ix p)).2 (ix p)) (v_sM c n K P B (ix p))) else -nI 4) else -nI 2
abbrev isBetter (c n : Nat) (K P B : Nat → Nat) (np : Nat) (T : Nat → Nat) (p : Int32) : Prop := isPl p ∧ ¬ muchP c n K P B (ix p) ∧ np + cntN (v_new c n K P B np T (ix p)) (v_sM c n K P B (ix p)) ≤ 40
end S42
