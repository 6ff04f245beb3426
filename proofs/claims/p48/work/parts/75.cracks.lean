/-! THE CLASS'S CALLS: feed, racks, count -/
section S75
variable {c n np nr tn : Nat} {K P B S T C : Nat → Nat} {tb : Nat → Int32} {rl : Nat → Nat} {rF rK rP rB RS : Nat → Nat → Nat} {h h' : AH}
theorem co_count {U : Nat → Nat → Nat} {V : Nat → Int} {TA AA : Nat → Nat} {sk : Nat} (s : tS 0 c n K P B S h) (t : cP 0 np T C h) (r : cR 0 nr U V TA AA h) (k : cK 0 sk h) (w : Int32) : XX true 1 77 0 [.ref 64, .int (w)] [] (h) (some (.long (a_count c n np nr sk w)), h) := by
  have hc := s.c5
  have h6 := s.n6
  have hp := t.1
  have h8 := r.2.1.1.1
  unfold a_count
  refine wb_X11_count_0 ?_
  by_cases q0 : w = nI 0
  · rw [if_pos q0]
    refine (sw_X11_count_1_0 q0).mpr ?_
    refine wb_X11_count_36 ?_
    rw [s.cc, nI_l (by omega)]
  · rw [if_neg q0]
    by_cases q1 : w = nI 1
    · rw [if_pos q1]
      refine (sw_X11_count_1_1 q1).mpr ?_
      refine wb_X11_count_48 ?_
      rw [s.nn, nI_l (by omega)]
    · rw [if_neg q1]
      by_cases q2 : w = nI 2
      · rw [if_pos q2]
        refine (sw_X11_count_1_2 q2).mpr ?_
        refine wb_X11_count_60 ?_
        rw [t.2.1, nI_l (by omega)]
      · rw [if_neg q2]
        by_cases q3 : w = nI 3
        · rw [if_pos q3]
          refine (sw_X11_count_1_3 q3).mpr ?_
          refine wb_X11_count_72 ?_
          rw [r.1, nI_l (by omega)]
        · rw [if_neg q3]
          by_cases q4 : w = nI 4
          · rw [if_pos q4]
            refine (sw_X11_count_1_4 q4).mpr ?_
            refine wb_X11_count_81 ?_
            rw [k.1]
          · rw [if_neg q4]
            refine (sw_X11_count_1_d ?_).mpr ?_
            · apply Classical.byContradiction
              intro z
              have : ∃ j : Nat, j ≤ 4 ∧ w = nI j := nI_of3 (by decide) (Int32.le_iff_toInt_le.mpr (by rw [show (nI 0).toInt = 0 by decide]; omega)) (Int32.le_iff_toInt_le.mpr (by rw [show (nI 4).toInt = 4 by decide]; omega))
              obtain ⟨j, hj, rfl⟩ := this
              match j, hj with
              | 0, _ => exact q0 rfl
              | 1, _ => exact q1 rfl
              | 2, _ => exact q2 rfl
              | 3, _ => exact q3 rfl
              | 4, _ => exact q4 rfl
            · refine wb_X11_count_89 ?_
              rfl
end S75
