/-! THE REFERENCE'S CALLS: a rule put -/
section S43
variable {c n np nr : Nat} {U : Nat → Nat → Nat} {V W : Nat → Int} {h h' : AH}
abbrev ruleOk (t x y a b m v : Int32) : Prop := isLe 4 t ∧ isLe 7 x ∧ isLe 7 y ∧ isPl a ∧ isPl b ∧ a ≠ b ∧ isLe 4 m ∧ -nI 99 ≤ v ∧ v ≤ nI 99
def v_ru (t x y a b m : Nat) : Nat → Nat := fun f => if f = 0 then t else if f = 1 then x else if f = 2 then y else if f = 3 then a else if f = 4 then b else m
def a_rule (nr : Nat) (t x y a b m v : Int32) : Int32 := if ruleOk t x y a b m v then (if nr = 8 then -nI 4 else nI nr) else -nI 2
abbrev isRule (nr : Nat) (t x y a b m v : Int32) : Prop := ruleOk t x y a b m v ∧ nr ≠ 8
theorem isLe_l {N : Nat} (hN : N < 2 ^ 31) (x : Int32) : (lN 0 ≤ x.toInt64 ∧ x.toInt64 ≤ lN N) ↔ isLe N x := by rw [lN_nI (by decide : 0 < 2 ^ 31), lN_nI hN, toI64_le, toI64_le]
theorem mo_rule_pre (t x y a b m v : Int32) {R : Option Value × AH} (u : ¬ ruleOk t x y a b m v → R = (some (.int (-nI 2)), h)) (u2 : ruleOk t x y a b m v → XX true 3 204 84 [.ref 153, .int (t), .int (x), .int (y), .int (a), .int (b), .int (m), .int (v), ax_junk] [.int (nI 1)] (h) (R)) : XX true 3 204 0 [.ref 153, .int t, .int x, .int y, .int a, .int b, .int m, .int v, ax_junk] [] h R := by
  have n9 : -lN 99 = (-nI 99 : Int32).toInt64 := by decide
  refine wb_X12_rule_0 ?_
  refine (cl_X12_rule_6 rfl (by decide) (sp_in _ _ _ _)).mpr ?_
  refine wb_X12_rule_9 ?_
  rw [b2i_cong (isLe_l (by decide) t)]
  by_cases q0 : isLe 4 t
  · rw [b2i_t q0, if_neg (by decide)]
    refine (cl_X12_rule_18 rfl (by decide) (sp_in _ _ _ _)).mpr ?_
    refine wb_X12_rule_21 ?_
    rw [b2i_cong (isLe_l (by decide) x)]
    by_cases q1 : isLe 7 x
    · rw [b2i_t q1, if_neg (by decide)]
      refine (cl_X12_rule_30 rfl (by decide) (sp_in _ _ _ _)).mpr ?_
      refine wb_X12_rule_33 ?_
      rw [b2i_cong (isLe_l (by decide) y)]
      by_cases q2 : isLe 7 y
      · rw [b2i_t q2, if_neg (by decide)]
        refine (cl_X12_rule_38 rfl (by decide) (sp_isPlayer _ _)).mpr ?_
        refine wb_X12_rule_41 ?_
        by_cases q3 : isPl a
        · rw [b2i_t q3, if_neg (by decide)]
          refine (cl_X12_rule_46 rfl (by decide) (sp_isPlayer _ _)).mpr ?_
          refine wb_X12_rule_49 ?_
          by_cases q4 : isPl b
          · rw [b2i_t q4, if_neg (by decide)]
            by_cases q5 : a = b
            · rw [if_pos q5]
              exact u (fun z => z.2.2.2.2.2.1 q5)
            · rw [if_neg q5]
              refine (cl_X12_rule_66 rfl (by decide) (sp_in _ _ _ _)).mpr ?_
              refine wb_X12_rule_69 ?_
              rw [b2i_cong (isLe_l (by decide) m)]
              by_cases q6 : isLe 4 m
              · rw [b2i_t q6, if_neg (by decide)]
                refine (cl_X12_rule_81 rfl (by decide) (sp_in _ _ _ _)).mpr ?_
                rw [n9, lN_nI (by decide : 99 < 2 ^ 31), b2i_cong (and_congr (toI64_le _ _) (toI64_le _ _))]
                by_cases q7 : -nI 99 ≤ v ∧ v ≤ nI 99
                · rw [b2i_t q7]
                  exact wk_X12_rule_84 (u2 ⟨q0, q1, q2, q3, q4, q5, q6, q7⟩)
                · rw [b2i_f q7]
                  refine wb_X12_rule_84 ?_
                  rw [if_pos rfl]
                  exact u (fun z => q7 z.2.2.2.2.2.2.2)
              · rw [b2i_f q6, if_pos rfl]
                exact u (fun z => q6 z.2.2.2.2.2.2.1)
          · rw [b2i_f q4, if_pos rfl]
            exact u (fun z => q4 z.2.2.2.2.1)
        · rw [b2i_f q3, if_pos rfl]
          exact u (fun z => q3 z.2.2.2.1)
      · rw [b2i_f q2, if_pos rfl]
        exact u (fun z => q2 z.2.2.1)
    · rw [b2i_f q1, if_pos rfl]
      exact u (fun z => q1 z.2.1)
  · rw [b2i_f q0, if_pos rfl]
    exact u (fun z => q0 z.1)
end S43
