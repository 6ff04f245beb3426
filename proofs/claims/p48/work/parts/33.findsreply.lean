/-! REPLIES: the first best of all -/
section S33
variable {c n np nr : Nat} {K P B T C : Nat → Nat} {U : Nat → Nat → Nat} {V W : Nat → Int} {h h' : AH}
theorem v_much_pr {p : Nat} (q : v_much c n K P B p (v_sM c n K P B p) ≤ 729) : ∀ t, t ≤ v_sM c n K P B p → v_much c n K P B p t = v_pr (fun t => B (v_sJ c n K P B p t)) t
  | 0, _ => rfl
  | t + 1, ht => by
    have ih := v_much_pr q t (by omega)
    have lt : v_much c n K P B p t ≤ 729 := by
      by_cases z : v_much c n K P B p t ≤ 729
      · exact z
      · have := v_much_stay z (v_sM c n K P B p - t)
        rw [show t + (v_sM c n K P B p - t) = v_sM c n K P B p by omega] at this
        omega
    show (if v_much c n K P B p t ≤ 729 then v_much c n K P B p t * B (v_sJ c n K P B p t) else v_much c n K P B p t) = v_pr (fun t => B (v_sJ c n K P B p t)) t * B (v_sJ c n K P B p t)
    rw [if_pos lt, ih]
end S33
