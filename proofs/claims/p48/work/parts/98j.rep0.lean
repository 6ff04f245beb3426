/-! AT THE START NOTHING IS MADE -/
section S98j
variable {av : Nat → Value} {D : va_G} {cA : Nat → ClassId} {Ls : Nat} {xs : Nat → Int32}
theorem rep_0 (H : Heap) : ax_Rep H.size av D cA H Ls xs false (psi (fun j => .int (xs j)) Ls h00) H := ⟨rfl, Nat.le_refl 64, rfl, fun q _ => rfl, fun k h1 h2 => absurd h2 (by show ¬ k < 64; omega), fun k h1 h2 => absurd h2 (by show ¬ k < 64; omega), fun j => rfl, rfl, fun z => absurd z (by decide), fun z => absurd z (by decide)⟩
end S98j
