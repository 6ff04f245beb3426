/-! THE REFERENCE'S CALLS: what may have happened; plans out of a sheet -/
section S46
variable {c n np nr : Nat} {K P B T C : Nat → Nat} {sS sZ : Nat → Nat} {sN : Nat → Nat → Int32} {h h' : AH}
/-- whether an event can have happened in a stage of a way that looks so -/
def v_may (c : Nat) (K P B : Nat → Nat) (p j : Nat) (v : Int32) (i e m : Nat) : Prop := ∃ w, w < m ∧ nI (v_vw c K P B p j w) = v ∧ v_what c K B j w i = e
noncomputable def v_mayN (c : Nat) (K P B : Nat → Nat) (p j : Nat) (v : Int32) (i m : Nat) (e : Nat) : Int32 := @ite _ (v_may c K P B p j v i e m) (Classical.propDecidable _) (nI 1) (nI 0)
theorem v_mayN_0 (p j : Nat) (v : Int32) (i e : Nat) : v_mayN c K P B p j v i 0 e = nI 0 := by
  unfold v_mayN
  exact if_neg (fun ⟨w, hw, _⟩ => Nat.not_lt_zero _ hw)
theorem v_mayN_no {p j : Nat} {v : Int32} {i m : Nat} (q : nI (v_vw c K P B p j m) ≠ v) (e : Nat) : v_mayN c K P B p j v i (m + 1) e = v_mayN c K P B p j v i m e := by
  unfold v_mayN
  congr 1
  refine propext ⟨fun ⟨w, hw, a, b⟩ => ?_, fun ⟨w, hw, a, b⟩ => ⟨w, by omega, a, b⟩⟩
  by_cases z : w = m
  · rw [z] at a; exact absurd a q
  · exact ⟨w, by omega, a, b⟩
theorem v_mayN_yes {p j : Nat} {v : Int32} {i m : Nat} (q : nI (v_vw c K P B p j m) = v) : v_mayN c K P B p j v i (m + 1) (v_what c K B j m i) = nI 1 := by
  unfold v_mayN
  exact if_pos ⟨m, by omega, q, rfl⟩
theorem v_mayN_oth {p j : Nat} {v : Int32} {i m e : Nat} (q : e ≠ v_what c K B j m i) : v_mayN c K P B p j v i (m + 1) e = v_mayN c K P B p j v i m e := by
  unfold v_mayN
  congr 1
  refine propext ⟨fun ⟨w, hw, a, b⟩ => ?_, fun ⟨w, hw, a, b⟩ => ⟨w, by omega, a, b⟩⟩
  by_cases z : w = m
  · rw [z] at b; exact absurd b.symm q
  · exact ⟨w, by omega, a, b⟩
end S46
