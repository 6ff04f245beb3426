/-! THE REFERENCE'S CALLS: a rule put -/
section S43
variable {c n np nr : Nat} {U : Nat → Nat → Nat} {V W : Nat → Int} {h h' : AH}
abbrev ruleOk (t x y a b m v : Int32) : Prop := isLe 4 t ∧ isLe 7 x ∧ isLe 7 y ∧ isPl a ∧ isPl b ∧ a ≠ b ∧ isLe 4 m ∧ -nI 99 ≤ v ∧ v ≤ nI 99
def v_ru (t x y a b m : Nat) : Nat → Nat := fun f => if f = 0 then t else if f = 1 then x else if f = 2 then y else if f = 3 then a else if f = 4 then b else m
def a_rule (nr : Nat) (t x y a b m v : Int32) : Int32 := if ruleOk t x y a b m v then (if nr = 8 then -nI 4 else nI nr) else -nI 2
abbrev isRule (nr : Nat) (t x y a b m v : Int32) : Prop := ruleOk t x y a b m v ∧ nr ≠ 8
theorem isLe_l {N : Nat} (hN : N < 2 ^ 31) (x : Int32) : (lN 0 ≤ x.toInt64 ∧ x.toInt64 ≤ lN N) ↔ isLe N x := by rw [lN_nI (by decide : 0 < 2 ^ 31), lN_nI hN, toI64_le, toI64_le]
theorem mo_rule_pre (t x y a b m v : Int32) {R : Option Value × AH} (u : ¬ ruleOk t x y a b m v → R = (some (.int (-nI 2)), h)) (u2 : ruleOk t x y a b m v → XX true 3 204 84 [.ref 153, .int (t), .int (x), .int (y), .int (a), .int (b), .int (m), .int (v), ax_junk] [.int (nI 1)] (h) (R)) : XX true 3 204 0 [.ref 153, .int t, .int x, .int y, .int a, .int b, .int m, .int v, ax_junk] [] h R := by
  have n9 : -lN 99 = (-nI 99 : Int32).toInt64 := by decide
  refine wb_X12_rule_0 ?_
  refine (cl_X12_rule_6 rfl (by decide) (sp_in _ _ _ _)).mpr ?_
  refine wb_X12_rule_9 ?_
  rw [b2i_cong (isLe_l (by decide) t)]
  by_cases q0 : isLe 4 t
  · rw [b2i_t q0, if_neg (by decide)]
    refine (cl_X12_rule_18 rfl (by decide) (sp_in _ _ _ _)).mpr ?_
    refine wb_X12_rule_21 ?_
    rw [b2i_cong (isLe_l (by decide) x)]
    by_cases q1 : isLe 7 x
    · rw [b2i_t q1, if_neg (by decide)]
      refine (cl_X12_rule_30 rfl (by decide) (sp_in _ _ _ _)).mpr ?_
      refine wb_X12_rule_33 ?_
      rw [b2i_cong (isLe_l (by decide) y)]
      by_cases q2 : isLe 7 y
      · rw [b2i_t q2, if_neg (by decide)]
        refine (cl_X12_rule_38 rfl (by decide) (sp_isPlayer _ _)).mpr ?_
        refine wb_X12_rule_41 ?_
        by_cases q3 : isPl a
        · rw [b2i_t q3, if_neg (by decide)]
          refine (cl_X12_rule_46 rfl (by decide) (sp_isPlayer _ _)).mpr ?_
          refine wb_X12_rule_49 ?_
          by_cases q4 : isPl b
          · rw [b2i_t q4, if_neg (by decide)]
            by_cases q5 : a = b
            · rw [if_pos q5]
              exact u (fun z => z.2.2.2.2.2.1 q5)
            · rw [if_neg q5]
              refine (cl_X12_rule_66 rfl (by decide) (sp_in _ _ _ _)).mpr ?_
              refine wb_X12_rule_69 ?_
              rw [b2i_cong (isLe_l (by decide) m)]
              by_cases q6 : isLe 4 m
              · rw [b2i_t q6, if_neg (by decide)]
                refine (cl_X12_rule_81 rfl (by decide) (sp_in _ _ _ _)).mpr ?_
                rw [n9, lN_nI (by decide : 99 < 2 ^ 31), b2i_cong (and_congr (toI64_le _ _) (toI64_le _ _))]
                by_cases q7 : -nI 99 ≤ v ∧ v ≤ nI 99
                · rw [b2i_t q7]
                  exact wk_X12_rule_84 (u2 ⟨q0, q1, q2, q3, q4, q5, q6, q7⟩)
                · rw [b2i_f q7]
                  refine wb_X12_rule_84 ?_
                  rw [if_pos rfl]
                  exact u (fun z => q7 z.2.2.2.2.2.2.2)
              · rw [b2i_f q6, if_pos rfl]
                exact u (fun z => q6 z.2.2.2.2.2.2.1)
          · rw [b2i_f q4, if_pos rfl]
            exact u (fun z => q4 z.2.2.2.2.1)
        · rw [b2i_f q3, if_pos rfl]
          exact u (fun z => q3 z.2.2.2.1)
      · rw [b2i_f q2, if_pos rfl]
        exact u (fun z => q2 z.2.2.1)
    · rw [b2i_f q1, if_pos rfl]
      exact u (fun z => q1 z.2.1)
  · rw [b2i_f q0, if_pos rfl]
    exact u (fun z => q0 z.1)
theorem mo_rule (r : mR nr U V h) (t x y a b m v : Int32) : (isRule nr t x y a b m v → ∃ h', XX true 3 204 0 [.ref 153, .int (t), .int (x), .int (y), .int (a), .int (b), .int (m), .int (v), ax_junk] [] (h) (some (.int (a_rule nr t x y a b m v)), h') ∧ fr [(159, none), (153, some 8)] h h' ∧ mR (nr + 1) (updN U nr (v_ru (ix t) (ix x) (ix y) (ix a) (ix b) (ix m))) (updZ V nr v.toInt) h') ∧ (¬ isRule nr t x y a b m v → XX true 3 204 0 [.ref 153, .int (t), .int (x), .int (y), .int (a), .int (b), .int (m), .int (v), ax_junk] [] (h) (some (.int (a_rule nr t x y a b m v)), h)) := by
  have h8 := r.2.1.1
  unfold a_rule
  constructor
  · intro q
    obtain ⟨⟨q0, q1, q2, q3, q4, q5, q6, q7⟩, q8⟩ := id q
    obtain ⟨t', ht, rfl⟩ := q0.ex (by decide)
    obtain ⟨x', hx, rfl⟩ := q1.ex (by decide)
    obtain ⟨y', hy, rfl⟩ := q2.ex (by decide)
    obtain ⟨a', ha, rfl⟩ := q3.ex
    obtain ⟨b', hb, rfl⟩ := q4.ex
    obtain ⟨m', hm, rfl⟩ := q6.ex (by decide)
    have v9 : -99 ≤ v.toInt ∧ v.toInt ≤ 99 := by
      have z1 := Int32.le_iff_toInt_le.mp q7.1
      have z2 := Int32.le_iff_toInt_le.mp q7.2
      rw [show (-nI 99 : Int32).toInt = -99 by decide] at z1
      rw [show (nI 99 : Int32).toInt = 99 by decide] at z2
      exact ⟨z1, z2⟩
    have ab : a' ≠ b' := fun z => q5 (congrArg nI z)
    simp only [ix_nI (show t' < 2 ^ 31 by omega), ix_nI (show x' < 2 ^ 31 by omega), ix_nI (show y' < 2 ^ 31 by omega), ix_nI (show a' < 2 ^ 31 by omega), ix_nI (show b' < 2 ^ 31 by omega), ix_nI (show m' < 2 ^ 31 by omega)]
    refine ⟨ax_wr (ax_wr (ax_wr (ax_wr (ax_wr (ax_wr (ax_wr (ax_wr h 159 (7 * nr) (.int (nI t'))) 159 (7 * nr + 1) (.int (nI x'))) 159 (7 * nr + 2) (.int (nI y'))) 159 (7 * nr + 3) (.int (nI a'))) 159 (7 * nr + 4) (.int (nI b'))) 159 (7 * nr + 5) (.int (nI m'))) 159 (7 * nr + 6) (.int v)) 153 8 (.int (nI (nr + 1))), mo_rule_pre _ _ _ _ _ _ _ (fun u => absurd q.1 u) (fun _ => ?_), ?_, wr_I _ _ _ _, ⟨by omega, fun i hi => ?_⟩, fun i hi => ?_⟩
    · refine wb_X12_rule_84 ?_
      rw [if_neg (by decide), r.1, if_neg (fun z => q8 ((nI_eq (by omega) (by omega)).mp z)), if_pos q.1, if_neg q8]
      rw [nI_mulI, nI_add, nI_add, nI_add, nI_add, nI_add, nI_add, ix_nI (by omega), ix_nI (by omega), ix_nI (by omega), ix_nI (by omega), ix_nI (by omega), ix_nI (by omega), ix_nI (by omega)]
      refine ⟨in_nI (by omega) (by decide), in_nI (by omega) (by decide), in_nI (by omega) (by decide), in_nI (by omega) (by decide), in_nI (by omega) (by decide), in_nI (by omega) (by decide), in_nI (by omega) (by decide), ?_⟩
      have w9 : ∀ (h : AH) (j : Nat) (v : Value) (k : Nat), hI (ax_wr h 159 j v) 153 k = hI h 153 k := fun _ _ _ _ => wr_Ia (by decide)
      simp only [w9, wr_I, r.1, nI_s]
      rw [show nI 1 = nI (0 + 1) by rfl, nI_subI (by omega), show nr + 1 - (0 + 1) = nr by omega]
    · exact (((((((fr.wr (by simp [inS])).wr' (by simp [inS])).wr' (by simp [inS])).wr' (by simp [inS])).wr' (by simp [inS])).wr' (by simp [inS])).wr' (by simp [inS])).wr' (by simp [inS])
    · by_cases e : i = nr
      · rw [e, updN_s]
        unfold updZ
        rw [if_pos rfl]
        exact ⟨by show t' < 5; omega, by show x' < 8; omega, by show y' < 8; omega, ha, hb, ab, by show m' < 5; omega, v9⟩
      · rw [updN_o e]
        unfold updZ
        rw [if_neg e]
        exact r.2.1.2 i (by omega)
    · rw [Nat.zero_add]
      by_cases e : i = nr
      · rw [e, updN_s]
        unfold updZ
        rw [if_pos rfl]
        refine ⟨fun f hf => ?_, ?_⟩
        · rw [wr_Ia (by decide), wr_Ij (by omega)]
          have f6 : f = 0 ∨ f = 1 ∨ f = 2 ∨ f = 3 ∨ f = 4 ∨ f = 5 := by omega
          rcases f6 with rfl | rfl | rfl | rfl | rfl | rfl
          · rw [wr_Ij (by omega), wr_Ij (by omega), wr_Ij (by omega), wr_Ij (by omega), wr_Ij (by omega)]
            exact wr_I _ _ _ _
          · rw [wr_Ij (by omega), wr_Ij (by omega), wr_Ij (by omega), wr_Ij (by omega), wr_I]
            rfl
          · rw [wr_Ij (by omega), wr_Ij (by omega), wr_Ij (by omega), wr_I]
            rfl
          · rw [wr_Ij (by omega), wr_Ij (by omega), wr_I]
            rfl
          · rw [wr_Ij (by omega), wr_I]
            rfl
          · rw [wr_I]
            rfl
        · rw [wr_Ia (by decide), wr_I]
          exact (Int32.ofInt_toInt v).symm
      · rw [updN_o e]
        unfold updZ
        rw [if_neg e]
        have := r.2.2 i (by omega)
        rw [Nat.zero_add] at this
        have old : ∀ f, f < 7 → hI (ax_wr (ax_wr (ax_wr (ax_wr (ax_wr (ax_wr (ax_wr (ax_wr h 159 (7 * nr) (.int (nI t'))) 159 (7 * nr + 1) (.int (nI x'))) 159 (7 * nr + 2) (.int (nI y'))) 159 (7 * nr + 3) (.int (nI a'))) 159 (7 * nr + 4) (.int (nI b'))) 159 (7 * nr + 5) (.int (nI m'))) 159 (7 * nr + 6) (.int v)) 153 8 (.int (nI (nr + 1)))) 159 (7 * i + f) = hI h 159 (7 * i + f) := fun f hf => by
          rw [wr_Ia (by decide), wr_Ij (by omega), wr_Ij (by omega), wr_Ij (by omega), wr_Ij (by omega), wr_Ij (by omega), wr_Ij (by omega), wr_Ij (by omega)]
        exact ⟨fun f hf => (old f (by omega)).trans (this.1 f hf), (old 6 (by decide)).trans this.2⟩
  · intro q
    refine mo_rule_pre _ _ _ _ _ _ _ (fun u => by rw [if_neg u]) (fun u => ?_)
    have e : nr = 8 := by
      by_cases z : nr = 8
      · exact z
      · exact absurd ⟨u, z⟩ q
    refine wb_X12_rule_84 ?_
    rw [if_neg (by decide), r.1, if_pos (congrArg nI e), if_pos u, if_pos e]
end S43
