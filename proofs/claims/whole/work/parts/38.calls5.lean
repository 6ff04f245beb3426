/-! THE REFERENCE'S CALLS: rules, pay, the stake -/
section S38
variable {c n np nr : Nat} {K P B T C : Nat → Nat} {U : Nat → Nat → Nat} {V W : Nat → Int} {h h' : AH}
/-- the stake lies there -/
def mK (sk : Nat) (h : AH) : Prop := hL h 153 10 = lN sk ∧ 1 ≤ sk ∧ sk < 2 ^ 63
theorem mK.fr {sk : Nat} (s : mK sk h) {L : List (Nat × Option Nat)} (f : fr L h h') (q : inS L 153 10 = false) : mK sk h' := ⟨(f.L q).trans s.1, s.2⟩
def a_ruleOf (c n : Nat) (K B : Nat → Nat) (nr : Nat) (U : Nat → Nat → Nat) (V W : Nat → Int) (i w : Int32) : Int32 := if isLt nr i ∧ isLt (v_ways c K B n) w then (if v_so U n (v_what c K B n (ix w)) 9 (ix i) = true then iI (v_am U V W c n (v_what c K B n (ix w)) 9 (ix i)) else nI 0) else -nI 2
theorem mo_ruleOf (s : mS c n K P B h) (r : mR nr U V h) (w : mW W h) (i k : Int32) : ∃ h', XX true 16 205 0 [.ref 153, .int (i), .int (k)] [] (h) (some (.int (a_ruleOf c n K B nr U V W i k)), h') ∧ fr [(160, none)] h h' := by
  have h6 := s.n6
  have h8 := r.2.1.1
  have wl := v_ways_le s.1 (Nat.le_refl n)
  unfold a_ruleOf
  by_cases q : isLt nr i ∧ isLt (v_ways c K B n) k
  · obtain ⟨q0, q1⟩ := id q
    obtain ⟨a, ha, rfl⟩ := q0.ex (by omega)
    obtain ⟨b, hb, rfl⟩ := q1.ex (by omega)
    rw [if_pos q, ix_nI (by omega), ix_nI (by omega)]
    obtain ⟨h1, r1, f, o⟩ := sp_lays s (Nat.le_refl _) hb
    have s1 : mS c n K P B h1 := s.fr f rfl
    have rr : mR nr U V h1 := r.fr f (fun _ => rfl) rfl
    have he : ∀ i, i < n → v_what c K B n b i < 5 := fun i hi => v_what_lt s.1 (Nat.le_refl _) b hi
    refine ⟨h1, ?_, f⟩
    refine wb_X12_ruleOf_0 ?_
    rw [r.1]
    refine (cl_X12_ruleOf_10 rfl (by decide) (sp_in _ _ _ _)).mpr ?_
    refine wb_X12_ruleOf_13 ?_
    rw [b2i_cong (in_pred (by omega) (nI a)), b2i_t q0, if_neg (by decide)]
    refine (cl_X12_ruleOf_18 rfl (by decide) (sp_isWay s _)).mpr ?_
    refine wb_X12_ruleOf_21 ?_
    rw [b2i_t q1, if_neg (by decide), s.nn]
    refine (cl_X12_ruleOf_33 rfl (by decide) (r1)).mpr ?_
    refine wb_X12_ruleOf_36 ?_
    refine (cl_X12_ruleOf_38 rfl (by decide) (sp_isSo s1 rr.2 o he ha)).mpr ?_
    refine wb_X12_ruleOf_41 ?_
    by_cases z : v_so U n (v_what c K B n b) 9 a = true
    · rw [b2i_t z, if_neg (by decide), if_pos z]
      refine (cl_X12_ruleOf_51 rfl (by decide) (sp_amountA s1 (w.fr f (fun _ => rfl)) rr.2 (by omega) o he ha)).mpr ?_
      refine wb_X12_ruleOf_54 ?_
      rfl
    · rw [b2i_f z, if_pos rfl, if_neg z]
  · rw [if_neg q]
    refine ⟨h, ?_, fr.rfl'⟩
    refine wb_X12_ruleOf_0 ?_
    rw [r.1]
    refine (cl_X12_ruleOf_10 rfl (by decide) (sp_in _ _ _ _)).mpr ?_
    refine wb_X12_ruleOf_13 ?_
    rw [b2i_cong (in_pred (by omega) i)]
    by_cases q0 : isLt nr i
    · rw [b2i_t q0, if_neg (by decide)]
      refine (cl_X12_ruleOf_18 rfl (by decide) (sp_isWay s _)).mpr ?_
      refine wb_X12_ruleOf_21 ?_
      rw [b2i_f (fun z => q ⟨q0, z⟩), if_pos rfl]
    · rw [b2i_f q0, if_pos rfl]
def a_unrule (nr : Nat) : Int32 := if nr = 0 then -nI 3 else nI (nr - 1)
theorem mo_unrule (r : mR nr U V h) : ∃ h', XX true 1 208 0 [.ref 153] [] (h) (some (.int (a_unrule nr)), h') ∧ fr [(153, some 8)] h h' ∧ mR (nr - 1) U V h' := by
  have h8 := r.2.1.1
  unfold a_unrule
  by_cases q : nr = 0
  · subst q
    refine ⟨h, ?_, fr.rfl', r⟩
    refine wb_X12_unrule_0 ?_
    rw [r.1, if_pos rfl, if_pos rfl]
  · refine ⟨ax_wr h 153 8 (.int (nI (nr - 1))), ?_, fr.wr rfl, wr_I _ _ _ _, ⟨by omega, fun i hi => r.2.1.2 i (by omega)⟩, fun i hi => ?_⟩
    · refine wb_X12_unrule_0 ?_
      rw [r.1, if_neg (nI_z (by omega) (by omega)), if_neg q, show nI 1 = nI (0 + 1) by rfl, nI_subI (by omega), wr_I]
    · have := r.2.2 i (by omega)
      exact ⟨fun f hf => by rw [wr_Ia (by decide)]; exact this.1 f hf, by rw [wr_Ia (by decide)]; exact this.2⟩
def a_pay (c n : Nat) (K B : Nat → Nat) (nr : Nat) (U : Nat → Nat → Nat) (V W : Nat → Int) (sk : Nat) (p w : Int32) : Int64 := if isPl p ∧ isLt (v_ways c K B n) w then (if v_fit (lI (v_pay U V W c n (v_what c K B n (ix w)) (ix p) nr)) sk then lI (v_pay U V W c n (v_what c K B n (ix w)) (ix p) nr) * lN sk else lNO 5) else lNO 2
theorem mo_pay (s : mS c n K P B h) (r : mR nr U V h) (w : mW W h) {sk : Nat} (k : mK sk h) (p i : Int32) : ∃ h', XX true 17 209 0 [.ref 153, .int (p), .int (i), ax_junk, ax_junk] [] (h) (some (.long (a_pay c n K B nr U V W sk p i)), h') ∧ fr [(160, none)] h h' := by
  have h6 := s.n6
  have h8 := r.2.1.1
  have wl := v_ways_le s.1 (Nat.le_refl n)
  unfold a_pay
  have no : ∀ R, R = (some (Value.long (lNO 2)), h) → XX true 17 209 15 [ax_junk, ax_junk, ax_junk, ax_junk, ax_junk] [] (h) (R) := by
    intro R z
    refine wb_X12_pay_15 ?_
    refine (cl_X12_pay_17 rfl (by decide) (sp_refused _ _)).mpr ?_
    refine wb_X12_pay_20 ?_
    exact z
  by_cases q : isPl p ∧ isLt (v_ways c K B n) i
  · obtain ⟨q0, q1⟩ := id q
    obtain ⟨a, ha, rfl⟩ := q0.ex
    obtain ⟨b, hb, rfl⟩ := q1.ex (by omega)
    rw [if_pos q, ix_nI (by omega), ix_nI (by omega)]
    obtain ⟨h1, r1, f, o⟩ := sp_lays s (Nat.le_refl _) hb
    have s1 : mS c n K P B h1 := s.fr f rfl
    have rr : mR nr U V h1 := r.fr f (fun _ => rfl) rfl
    have kk := k.fr f rfl
    have he : ∀ i, i < n → v_what c K B n b i < 5 := fun i hi => v_what_lt s.1 (Nat.le_refl _) b hi
    have pb := v_pay_le (n := n) (c := c) (e := v_what c K B n b) r.2.1 (fun i hi => (w i hi).2) he s.c5.2 a nr (Nat.le_refl _)
    refine ⟨h1, ?_, f⟩
    refine wb_X12_pay_0 ?_
    refine (cl_X12_pay_1 rfl (by decide) (sp_isPlayer _ _)).mpr ?_
    refine wb_X12_pay_4 ?_
    rw [b2i_t q0, if_neg (by decide)]
    refine (cl_X12_pay_9 rfl (by decide) (sp_isWay s _)).mpr ?_
    refine wb_X12_pay_12 ?_
    rw [b2i_t q1, if_neg (by decide), s.nn]
    refine (cl_X12_pay_27 rfl (by decide) (r1)).mpr ?_
    refine wb_X12_pay_30 ?_
    refine (cl_X12_pay_32 rfl (by decide) (sp_payOf s1 (w.fr f (fun _ => rfl)) rr o he ha)).mpr ?_
    refine wb_X12_pay_35 ?_
    rw [iI_l (by omega) (by omega), kk.1]
    refine (cl_X12_pay_42 rfl (by decide) (sp_fits _ k.2.1 k.2.2 _)).mpr ?_
    refine wb_X12_pay_45 ?_
    by_cases z : v_fit (lI (v_pay U V W c n (v_what c K B n b) a nr)) sk
    · rw [b2i_t z, if_neg (by decide), if_pos z, kk.1]
      refine wk_X12_pay_62 ?_
      refine wb_X12_pay_62 ?_
      rfl
    · rw [b2i_f z, if_pos rfl, if_neg z]
      refine (cl_X12_pay_59 rfl (by decide) (sp_refused _ _)).mpr ?_
      refine wb_X12_pay_62 ?_
      rfl
  · rw [if_neg q]
    refine ⟨h, ?_, fr.rfl'⟩
    refine wb_X12_pay_0 ?_
    refine (cl_X12_pay_1 rfl (by decide) (sp_isPlayer _ _)).mpr ?_
    refine wb_X12_pay_4 ?_
    by_cases q0 : isPl p
    · rw [b2i_t q0, if_neg (by decide)]
      refine (cl_X12_pay_9 rfl (by decide) (sp_isWay s _)).mpr ?_
      refine wb_X12_pay_12 ?_
      rw [b2i_f (fun z => q ⟨q0, z⟩), if_pos rfl]
      exact wk_X12_pay_15 (no _ rfl)
    · rw [b2i_f q0, if_pos rfl]
      exact wk_X12_pay_15 (no _ rfl)
end S38
