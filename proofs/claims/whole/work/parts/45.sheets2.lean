/-! THE REFERENCE'S CALLS: a sheet made -/
section S45
variable {sS sZ : Nat → Nat} {sN : Nat → Nat → Int32} {h h' : AH}
abbrev isSort (x : Int32) : Prop := -nI 1 ≤ x ∧ x ≤ nI 1
theorem isSort.ex {x : Int32} (q : isSort x) : ∃ k, k < 3 ∧ x = srW k := by
  have a := Int32.le_iff_toInt_le.mp q.1
  have b := Int32.le_iff_toInt_le.mp q.2
  rw [show (-nI 1 : Int32).toInt = -1 by decide] at a
  rw [show (nI 1 : Int32).toInt = 1 by decide] at b
  have e : ∀ k, k < 3 → (srW k).toInt = (k : Int) - 1 := by decide
  refine ⟨(x.toInt + 1).toNat, by omega, Int32.toInt.inj ?_⟩
  rw [e _ (by omega)]
  omega
/-- what is asked of a sheet's size -/
abbrev sheetOk (s x k : Int32) : Prop := isLe 3 s ∧ isSort x ∧ (nI 0 ≤ x → k ≤ nI 40)
def a_sheet (s x k : Int32) : Int32 := if sheetOk s x k then (if nI 0 ≤ x ∧ k < nI 0 then -nI 14 else nI 1) else -nI 2
abbrev isSheet' (s x k : Int32) : Prop := sheetOk s x k ∧ (nI 0 ≤ x → nI 0 ≤ k)
theorem mo_sheet (m : mSh sS sZ sN h) (s x k : Int32) : (isSheet' s x k → ∃ h', XX true 3 239 0 [.ref 153, .int (s), .int (x), .int (k)] [] (h) (some (.int (a_sheet s x k)), h') ∧ fr frE h h' ∧ mSh (updN sS (ix s) (x + nI 1).toInt.toNat) (updN sZ (ix s) (if x < nI 0 then 0 else ix k)) (updN sN (ix s) (fun _ => nI 0)) h') ∧ (¬ isSheet' s x k → XX true 3 239 0 [.ref 153, .int (s), .int (x), .int (k)] [] (h) (some (.int (a_sheet s x k)), h)) := by
  unfold a_sheet
  have n1 : -lN 1 = (-nI 1 : Int32).toInt64 := by decide
  have pre : ∀ R, (¬ sheetOk s x k → R = (some (.int (-nI 2)), h)) → (sheetOk s x k → XX true 3 239 32 [.ref 153, .int (s), .int (x), .int (k)] [] (h) (R)) → XX true 3 239 0 [.ref 153, .int s, .int x, .int k] [] h R := by
    intro R u u2
    refine wb_X12_sheet_0 ?_
    refine (cl_X12_sheet_1 rfl (by decide) (sp_isSheet _ _)).mpr ?_
    refine wb_X12_sheet_4 ?_
    by_cases q0 : isLe 3 s
    · rw [b2i_t q0, if_neg (by decide)]
      refine (cl_X12_sheet_13 rfl (by decide) (sp_in _ _ _ _)).mpr ?_
      refine wb_X12_sheet_16 ?_
      rw [n1, lN_nI (by decide : 1 < 2 ^ 31), b2i_cong (and_congr (toI64_le _ _) (toI64_le _ _))]
      by_cases q1 : isSort x
      · rw [b2i_t q1, if_neg (by decide)]
        by_cases q2 : x < nI 0
        · rw [if_pos q2]
          exact u2 ⟨q0, q1, fun z => absurd q2 (Int32.not_lt.mpr z)⟩
        · rw [if_neg q2]
          by_cases q3 : k ≤ nI 40
          · rw [if_pos q3]
            exact u2 ⟨q0, q1, fun _ => q3⟩
          · rw [if_neg q3]
            exact u (fun z => q3 (z.2.2 (Int32.not_lt.mp q2)))
      · rw [b2i_f q1, if_pos rfl]
        exact u (fun z => q1 z.2.1)
    · rw [b2i_f q0, if_pos rfl]
      exact u (fun z => q0 z.1)
  constructor
  · intro q
    obtain ⟨q0, q1, q2⟩ := q.1
    obtain ⟨a, ha, rfl⟩ := q0.ex (by decide)
    obtain ⟨y, hy, rfl⟩ := q1.ex
    have ey : ∀ y, y < 3 → (srW y + nI 1).toInt.toNat = y := by decide
    have nz : ∀ y, y < 3 → (y ≠ 0 → nI 0 ≤ srW y) := by decide
    have ea : ix (nI a) = a := ix_nI (by omega)
    obtain ⟨h', r, f, mm⟩ := sp_becomes m (s := a) (x := y) (k := k) (k' := ix k) (by omega) hy (fun z => by
      obtain ⟨k', hk, e⟩ := nI_of3 (by decide) (q.2 (nz y hy z)) (q2 (nz y hy z))
      rw [e, ix_nI (by omega)]
      exact ⟨rfl, hk⟩)
    have c43 : XX true 3 239 43 [.ref 153, .int (nI a), .int (srW y), .int (k)] [] (h) ((some (.int (nI 1)), h')) := by
      refine wb_X12_sheet_43 ?_
      refine (cl_X12_sheet_47 rfl (by decide) (r)).mpr ?_
      refine wb_X12_sheet_50 ?_
      rfl
    have e0 : (if srW y < nI 0 then 0 else ix k) = (if y = 0 then 0 else ix k) := by
      by_cases z : y = 0
      · rw [if_pos z, if_pos ((srW_neg y hy).mpr z)]
      · rw [if_neg z, if_neg (fun w => z ((srW_neg y hy).mp w))]
    rw [ea, ey y hy, e0]
    refine ⟨h', pre _ (fun z => absurd q.1 z) (fun _ => ?_), f, mm⟩
    rw [if_pos q.1, if_neg (fun z => absurd z.2 (Int32.not_lt.mpr (q.2 z.1)))]
    refine wb_X12_sheet_32 ?_
    by_cases z : srW y < nI 0
    · rw [if_pos z]
      exact c43
    · rw [if_neg z, if_neg (Int32.not_lt.mpr (q.2 (Int32.not_lt.mp z)))]
      exact c43
  · intro q
    refine pre _ (fun z => by rw [if_neg z]) (fun z => ?_)
    have z2 : nI 0 ≤ x ∧ k < nI 0 := by
      by_cases w : nI 0 ≤ x ∧ k < nI 0
      · exact w
      · exact absurd ⟨z, fun v => Int32.not_lt.mp (fun y => w ⟨v, y⟩)⟩ q
    rw [if_pos z, if_pos z2]
    refine wb_X12_sheet_32 ?_
    rw [if_neg (Int32.not_lt.mpr z2.1), if_pos z2.2]
end S45
