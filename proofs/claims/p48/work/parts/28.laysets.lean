/-! SETS: the reference's rows -/
section S28
variable {c n np : Nat} {K P B T C : Nat → Nat} {h h' : AH}
/-- in how many ways a player can choose at the first sets; stays where it is too much -/
noncomputable def v_much (c n : Nat) (K P B : Nat → Nat) (p : Nat) : Nat → Nat
  | 0 => 1
  | t + 1 => if v_much c n K P B p t ≤ 729 then v_much c n K P B p t * B (v_sJ c n K P B p t) else v_much c n K P B p t
theorem v_much_stay {p t : Nat} (q : ¬ v_much c n K P B p t ≤ 729) : ∀ k, v_much c n K P B p (t + k) = v_much c n K P B p t
  | 0 => rfl
  | k + 1 => by
    show (if v_much c n K P B p (t + k) ≤ 729 then _ else v_much c n K P B p (t + k)) = _
    rw [v_much_stay q k, if_neg q]
theorem v_setB {p t : Nat} (s : okS c n K P B) (ht : t < v_sM c n K P B p) : B (v_sJ c n K P B p t) = 2 ∨ B (v_sJ c n K P B p t) = 3 := by
  have := v_set_is s ht
  have ok := s.2.2.2 _ this.1
  have q := this.2.1.1
  exact ok.2.2.1 (by omega)
theorem v_much_le {p : Nat} (s : okS c n K P B) : ∀ t, t ≤ v_sM c n K P B p → 1 ≤ v_much c n K P B p t ∧ v_much c n K P B p t ≤ 2187
  | 0, _ => ⟨Nat.le_refl _, by show 1 ≤ 2187; decide⟩
  | t + 1, ht => by
    have ih := v_much_le (p := p) s t (by omega)
    have hb := v_setB s (p := p) (t := t) (by omega)
    show 1 ≤ (if v_much c n K P B p t ≤ 729 then v_much c n K P B p t * B (v_sJ c n K P B p t) else v_much c n K P B p t) ∧ (if v_much c n K P B p t ≤ 729 then v_much c n K P B p t * B (v_sJ c n K P B p t) else v_much c n K P B p t) ≤ 2187
    split
    · rcases hb with e | e <;> rw [e] <;> omega
    · omega
end S28
