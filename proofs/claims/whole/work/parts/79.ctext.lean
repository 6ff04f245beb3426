/-! THE CLASS: tokens, statements, a text -/
abbrev cfTk : List (Nat × Option Nat) := [(136, some 2), (136, some 3), (136, some 4), (136, some 5)]
/-- the token at hand -/
def cTk (tb : Nat → Int32) (tn f : Nat) (h : AH) : Prop := f ≤ tn ∧ hI h 136 3 = nI f ∧ hI h 136 4 = nI (v_e tb tn f) ∧ hI h 136 2 = nI (v_cl tb tn f) ∧ (v_cl tb tn f = 2 → hI h 136 5 = nI (v_nm tb f (v_e tb tn f - f)))
section S79
variable {c n tn : Nat} {K P B S : Nat → Nat} {tb : Nat → Int32} {h h' : AH}
theorem sp_sortAt (t : cTp tn tb h) {i : Nat} (hi : i ≤ 120) : XX true 1 112 0 [.ref 136, .int (nI i)] [] (h) (some (.int (nI (v_cl tb tn i))), h) := by
  have t120 := t.1
  refine wb_X9_sortAt_0 ?_
  rw [if_neg (nI_n0 (by omega)), t.2.1]
  unfold v_cl
  by_cases q : i < tn
  · rw [if_pos (nI_lt q (by omega)), if_pos q]
    have e : hI h 137 (ix (nI i)) = tb i := by rw [ix_nI (by omega)]; exact t.2.2 i q
    have w38 : ¬ (nI 97 ≤ tb i ∧ tb i ≤ nI 122) → XX true 1 112 38 [.ref 136, .int (nI i)] [] (h) ((some (.int (nI (if nI 97 ≤ tb i ∧ tb i ≤ nI 122 then 1 else if nI 48 ≤ tb i ∧ tb i ≤ nI 57 then 2 else if tb i = nI 59 then 3 else 4))), h)) := by
      intro nq
      rw [if_neg nq]
      have w62 : ¬ (nI 48 ≤ tb i ∧ tb i ≤ nI 57) → XX true 1 112 62 [.ref 136, .int (nI i)] [] (h) ((some (.int (nI (if nI 48 ≤ tb i ∧ tb i ≤ nI 57 then 2 else if tb i = nI 59 then 3 else 4))), h)) := by
        intro nq2
        rw [if_neg nq2]
        refine wb_X9_sortAt_62 ?_
        rw [e]
        refine ⟨in_nI (by omega) (by decide), ?_⟩
        by_cases z : tb i = nI 59
        · rw [if_pos z, if_pos z]
        · rw [if_neg z, if_neg z]
      refine wb_X9_sortAt_38 ?_
      rw [e]
      refine ⟨in_nI (by omega) (by decide), ?_⟩
      by_cases z : tb i < nI 48
      · rw [if_pos z]
        exact w62 (fun y => absurd y.1 (Int32.not_le.mpr z))
      · rw [if_neg z]
        refine ⟨in_nI (by omega) (by decide), ?_⟩
        by_cases z2 : tb i ≤ nI 57
        · rw [if_pos z2, if_pos ⟨Int32.not_lt.mp z, z2⟩]
        · rw [if_neg z2]
          exact w62 (fun y => z2 y.2)
    rw [e]
    refine ⟨in_nI (by omega) (by decide), ?_⟩
    by_cases z : tb i < nI 97
    · rw [if_pos z]
      exact w38 (fun y => absurd y.1 (Int32.not_le.mpr z))
    · rw [if_neg z]
      refine ⟨in_nI (by omega) (by decide), ?_⟩
      by_cases z2 : tb i ≤ nI 122
      · rw [if_pos z2, if_pos ⟨Int32.not_lt.mp z, z2⟩]
      · rw [if_neg z2]
        exact w38 (fun y => z2 y.2)
  · rw [if_neg (nI_nlt (by omega) (by omega)), if_neg q]
theorem sp_advance (t : cTp tn tb h) {a : Nat} (ha : a ≤ tn) (e : hI h 136 4 = nI a) : ∃ h', XX true 2 111 0 [.ref 136] [] (h) (none, h') ∧ fr cfTk h h' ∧ cTk tb tn (v_f tb tn a) h' := by
  have t120 := t.1
  have fl := v_f_le (tb := tb) ha
  generalize ef : v_f tb tn a = f at fl ⊢
  have el := v_e_le (tb := tb) fl.2
  -- over the token
  have lp2 : ∀ k j, f + j + k = v_e tb tn f → ∀ h1, fr cfTk h h1 → hI h1 136 3 = nI f → hI h1 136 4 = nI (f + j) → hI h1 136 2 = nI (v_cl tb tn f) → (v_cl tb tn f = 2 → hI h1 136 5 = nI (v_nm tb f j)) → (v_cl tb tn f ≤ 2 ∨ j = 0) → ∃ h', XX true 2 111 71 [.ref 136] [] (h1) ((none, h')) ∧ fr cfTk h h' ∧ cTk tb tn f h' := by
    intro k
    induction k with
    | zero =>
      intro j hj h1 f1 e3 e4 e2 e5 sm
      have ej : f + j = v_e tb tn f := hj
      have t1 : cTp tn tb h1 := cTp_fr t f1 (fun _ => rfl) rfl
      refine ⟨h1, ?_, f1, fl.2, e3, by rw [e4, ej], e2, fun z => by rw [e5 z, ← ej, Nat.add_sub_cancel_left]⟩
      refine wb_X9_advance_71 ?_
      rw [e4, t1.2.1]
      by_cases q : f + j < tn
      · rw [if_pos (nI_lt q (by omega))]
        refine cl_X9_advance_87 rfl (by decide) (sp_sortAt t1 (by omega)) ?_
        refine wb_X9_advance_90 ?_
        have ne : v_cl tb tn (f + j) ≠ v_cl tb tn f := by
          have q0 : v_cl tb tn f ≠ 0 := fun z => by
            have := v_cl_0 z
            omega
          have j0 := v_e_gt q0
          have s2 : v_cl tb tn f ≤ 2 := sm.resolve_right (by omega)
          have ee : v_e tb tn f = v_rn tb tn (v_cl tb tn f) (tn - f) f := by
            unfold v_e
            rw [if_neg q0, if_pos s2]
          rw [ej, ee]
          have : ∀ s m i, i + m = tn → v_rn tb tn s m i < tn → v_cl tb tn (v_rn tb tn s m i) ≠ s := by
            intro s m
            induction m with
            | zero => intro i hi lt; exact absurd lt (by show ¬ i < tn; omega)
            | succ m ihm =>
              intro i hi lt
              have eR : v_rn tb tn s (m + 1) i = if v_cl tb tn i = s then v_rn tb tn s m (i + 1) else i := rfl
              rw [eR] at lt ⊢
              by_cases y : v_cl tb tn i = s
              · rw [if_pos y] at lt ⊢
                exact ihm (i + 1) (by omega) lt
              · rw [if_neg y]
                exact y
          exact this _ _ f (by omega) (by rw [← ee]; omega)
        have c4 := v_cl_4 tb tn f
        have c5 := v_cl_4 tb tn (f + j)
        rw [e2, if_neg (fun z => ne ((nI_eq (by omega) (by omega)).mp z))]
      · rw [if_neg (nI_nlt (by omega) (by omega))]
    | succ k ih =>
      intro j hj h1 f1 e3 e4 e2 e5 sm
      have t1 : cTp tn tb h1 := cTp_fr t f1 (fun _ => rfl) rfl
      have q0 : v_cl tb tn f ≠ 0 := fun z => by
        have : v_e tb tn f = f := if_pos z
        omega
      have jt : f + j < tn := by omega
      have same : v_cl tb tn (f + j) = v_cl tb tn f := by
        rcases sm with s2 | j0
        · have ee : v_e tb tn f = v_rn tb tn (v_cl tb tn f) (tn - f) f := by
            unfold v_e
            rw [if_neg q0, if_pos s2]
          exact v_rn_all tb tn _ (tn - f) f (f + j) (by omega) (by rw [← ee]; omega)
        · rw [j0, Nat.add_zero]
      have c4 := v_cl_4 tb tn f
      -- behind the value
      have w130 : ∀ h2, fr cfTk h h2 → hI h2 136 3 = nI f → hI h2 136 4 = nI (f + j) → hI h2 136 2 = nI (v_cl tb tn f) → (v_cl tb tn f = 2 → hI h2 136 5 = nI (v_nm tb f (j + 1))) → ∃ h', XX true 2 111 130 [.ref 136] [] (h2) ((none, h')) ∧ fr cfTk h h' ∧ cTk tb tn f h' := by
        intro h2 f2 g3 g4 g2 g5
        have f3 : fr cfTk h (ax_wr h2 136 4 (.int (nI (f + (j + 1))))) := f2.wr' rfl
        have x2 : hI (ax_wr h2 136 4 (.int (nI (f + (j + 1))))) 136 2 = nI (v_cl tb tn f) := by rw [wr_Ij (by decide)]; exact g2
        by_cases s2 : v_cl tb tn f ≤ 2
        · obtain ⟨h', x, y⟩ := ih (j + 1) (by omega) _ f3 (by rw [wr_Ij (by decide)]; exact g3) (wr_I _ _ _ _) x2 (fun z => by rw [wr_Ij (by decide)]; exact g5 z) (Or.inl s2)
          refine ⟨h', ?_, y⟩
          refine wb_X9_advance_130 ?_
          rw [g4, nI_s, Nat.add_assoc, x2, if_neg (fun z => absurd ((nI_eq (by omega) (by omega)).mp z) (by omega)), if_neg (fun z => absurd ((nI_eq (by omega) (by omega)).mp z) (by omega))]
          exact x
        · have j0 := sm.resolve_left s2
          have ee : v_e tb tn f = f + 1 := by
            unfold v_e
            rw [if_neg q0, if_neg s2]
          refine ⟨_, ?_, f3, fl.2, by rw [wr_Ij (by decide)]; exact g3, ?_, x2, fun z => absurd z (by omega)⟩
          · refine wb_X9_advance_130 ?_
            rw [g4, nI_s, Nat.add_assoc, x2]
            by_cases s3 : v_cl tb tn f = 3
            · rw [if_pos (congrArg nI s3)]
            · rw [if_neg (fun z => s3 ((nI_eq (by omega) (by omega)).mp z)), if_pos (congrArg nI (show v_cl tb tn f = 4 by omega))]
          · rw [wr_I, ee, j0]
      have go : ∃ h', XX true 2 111 90 [.ref 136] [.int (nI (v_cl tb tn (f + j)))] (h1) ((none, h')) ∧ fr cfTk h h' ∧ cTk tb tn f h' := by
        by_cases v9 : hI h1 136 5 ≤ nI 9
        · obtain ⟨h', x, y⟩ := w130 (ax_wr h1 136 5 (.int (nI 10 * hI h1 136 5 + tb (f + j) - nI 48))) (f1.wr' rfl) (by rw [wr_Ij (by decide)]; exact e3) (by rw [wr_Ij (by decide)]; exact e4) (by rw [wr_Ij (by decide)]; exact e2) (fun z => by
            rw [wr_I, e5 z]
            obtain ⟨d, hd, d1, d2⟩ := dig (v_cl_2 (same.trans z)).1 (v_cl_2 (same.trans z)).2
            rw [e5 z] at v9
            have n99 : v_nm tb f j ≤ 99 := v_nm_99 j (fun i hi => v_e_dig z i (by omega))
            have l9 := (nI_leI (by omega) (by omega)).mp v9
            show _ = nI (if v_nm tb f j ≤ 9 then 10 * v_nm tb f j + ((tb (f + j)).toInt.toNat - 48) else v_nm tb f j)
            rw [if_pos l9, d2, d1, nI_mulI, nI_add, nI_subI (by omega), show 10 * v_nm tb f j + (48 + d) - 48 = 10 * v_nm tb f j + d by omega])
          refine ⟨h', ?_, y⟩
          refine wb_X9_advance_90 ?_
          rw [e2, same, if_pos rfl, if_pos v9, e4, ix_nI (by omega), t1.2.2 _ jt]
          exact ⟨in_nI (by omega) (by decide), x⟩
        · obtain ⟨h', x, y⟩ := w130 h1 f1 e3 e4 e2 (fun z => by
            rw [e5 z] at v9 ⊢
            have n99 : v_nm tb f j ≤ 99 := v_nm_99 j (fun i hi => v_e_dig z i (by omega))
            show _ = nI (if v_nm tb f j ≤ 9 then 10 * v_nm tb f j + ((tb (f + j)).toInt.toNat - 48) else v_nm tb f j)
            rw [if_neg (fun y => v9 (nI_le y (by omega)))])
          refine ⟨h', ?_, y⟩
          refine wb_X9_advance_90 ?_
          rw [e2, same, if_pos rfl, if_neg v9]
          exact x
      obtain ⟨h', x, y⟩ := go
      refine ⟨h', ?_, y⟩
      refine wb_X9_advance_71 ?_
      rw [e4, t1.2.1, if_pos (nI_lt jt (by omega))]
      refine cl_X9_advance_87 rfl (by decide) (sp_sortAt t1 (by omega)) ?_
      exact x
  -- over the blanks
  have lp1 : ∀ k i, i + k = tn → v_sk tb tn k i = f → ∀ h1, fr cfTk h h1 → hI h1 136 3 = nI i → ∃ h', XX true 2 111 8 [.ref 136] [] (h1) ((none, h')) ∧ fr cfTk h h' ∧ cTk tb tn f h' := by
    have fin : ∀ h1, fr cfTk h h1 → hI h1 136 3 = nI f → ∃ h', XX true 2 111 46 [.ref 136] [] (h1) ((none, h')) ∧ fr cfTk h h' ∧ cTk tb tn f h' := by
      intro h1 f1 e3
      have f2 : fr cfTk h (ax_wr (ax_wr h1 136 4 (.int (nI f))) 136 5 (.int (nI 0))) := (f1.wr' rfl).wr' rfl
      have g3 : hI (ax_wr (ax_wr h1 136 4 (.int (nI f))) 136 5 (.int (nI 0))) 136 3 = nI f := by rw [wr_Ij (by decide), wr_Ij (by decide)]; exact e3
      obtain ⟨h', x, y⟩ := lp2 (v_e tb tn f - f) 0 (by omega) (ax_wr (ax_wr (ax_wr h1 136 4 (.int (nI f))) 136 5 (.int (nI 0))) 136 2 (.int (nI (v_cl tb tn f)))) (f2.wr' rfl) (by rw [wr_Ij (by decide)]; exact g3) (by rw [wr_Ij (by decide), wr_Ij (by decide), wr_I]; rfl) (wr_I _ _ _ _) (fun _ => by rw [wr_Ij (by decide), wr_I]; rfl) (Or.inr rfl)
      refine ⟨h', ?_, y⟩
      refine wb_X9_advance_46 ?_
      rw [e3, g3]
      refine cl_X9_advance_65 rfl (by decide) (sp_sortAt (cTp_fr t f2 (fun _ => rfl) rfl) (by omega)) ?_
      refine wb_X9_advance_68 ?_
      exact x
    intro k
    induction k with
    | zero =>
      intro i hi ev h1 f1 e3
      obtain rfl : i = tn := hi
      obtain rfl : i = f := ev
      obtain ⟨h', x, y⟩ := fin h1 f1 e3
      refine ⟨h', ?_, y⟩
      have t1 : cTp i tb h1 := cTp_fr t f1 (fun _ => rfl) rfl
      refine wb_X9_advance_8 ?_
      rw [e3, t1.2.1, if_neg (nI_nlt (Nat.le_refl _) (by omega))]
      exact x
    | succ k ih =>
      intro i hi ev h1 f1 e3
      have t1 : cTp tn tb h1 := cTp_fr t f1 (fun _ => rfl) rfl
      have ee : v_sk tb tn (k + 1) i = if i < tn ∧ tb i = nI 32 then v_sk tb tn k (i + 1) else i := rfl
      rw [ee] at ev
      by_cases q : tb i = nI 32
      · rw [if_pos ⟨by omega, q⟩] at ev
        obtain ⟨h', x, y⟩ := ih (i + 1) (by omega) ev (ax_wr h1 136 3 (.int (nI (i + 1)))) (f1.wr' rfl) (wr_I _ _ _ _)
        refine ⟨h', ?_, y⟩
        refine wb_X9_advance_8 ?_
        rw [e3, t1.2.1, if_pos (nI_lt (by omega) (by omega)), ix_nI (by omega), t1.2.2 i (by omega), if_pos q, nI_s]
        exact ⟨in_nI (by omega) (by decide), x⟩
      · rw [if_neg (fun z => q z.2)] at ev
        obtain ⟨h', x, y⟩ := fin h1 f1 (by rw [e3, ev])
        refine ⟨h', ?_, y⟩
        refine wb_X9_advance_8 ?_
        rw [e3, t1.2.1, if_pos (nI_lt (by omega) (by omega)), ix_nI (by omega), t1.2.2 i (by omega), if_neg q]
        exact ⟨in_nI (by omega) (by decide), x⟩
  obtain ⟨h', x, y⟩ := lp1 (tn - a) a (by omega) ef (ax_wr h 136 3 (.int (nI a))) (fr.wr rfl) (wr_I _ _ _ _)
  refine ⟨h', ?_, y⟩
  refine wb_X9_advance_0 ?_
  rw [e]
  exact x
end S79
