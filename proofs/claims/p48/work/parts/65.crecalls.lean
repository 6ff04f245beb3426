/-! THE CLASS: a set is found; recall -/
section S65
variable {c n np : Nat} {K P B S T C : Nat → Nat} {h h' : AH}
theorem v_set_lt {p a b : Nat} (s : okS c n K P B) (hab : a < b) (hb : b < v_sM c n K P B p) : v_sJ c n K P B p a < v_sJ c n K P B p b ∨ (v_sJ c n K P B p a = v_sJ c n K P B p b ∧ v_sV c n K P B p a < v_sV c n K P B p b) := by
  have e := (v_sets_ok s p).2.1 a b hab hb
  show (v_sets c n K P B p).2 a / 524288 < (v_sets c n K P B p).2 b / 524288 ∨ ((v_sets c n K P B p).2 a / 524288 = (v_sets c n K P B p).2 b / 524288 ∧ (v_sets c n K P B p).2 a % 524288 < (v_sets c n K P B p).2 b % 524288)
  omega
theorem sp_sfind (s : okS c n K P B) {p : Nat} (z : cSets c n K P B p h) {t0 : Nat} (ht0 : t0 < v_sM c n K P B p) : XX true 1 68 0 [.ref 123, .int (nI (v_sJ c n K P B p t0)), .int (nI (v_sV c n K P B p t0)), ax_junk, ax_junk, ax_junk] [] (h) (some (.int (nI t0)), h) := by
  have m8 := v_sM_le s p
  have n6 := s.2.2.1
  have jt : ∀ t, t < v_sM c n K P B p → v_sJ c n K P B p t < 6 := fun t ht => by have := (v_set_is s ht).1; omega
  have vt : ∀ t, v_sV c n K P B p t < 524288 := v_sV_lt c n K P B p
  have lp : ∀ f lo hi, hi - lo ≤ f → lo ≤ t0 → t0 ≤ hi → hi ≤ v_sM c n K P B p → XX true 1 68 8 [.ref 123, .int (nI (v_sJ c n K P B p t0)), .int (nI (v_sV c n K P B p t0)), .int (nI lo), .int (nI hi), ax_junk] [] (h) ((some (.int (nI t0)), h)) := by
    intro f
    induction f with
    | zero =>
      intro lo hi hf h1 h2 h3
      obtain rfl : lo = t0 := by omega
      have zt := z.2 lo ht0
      refine wb_X5_find_8 ?_
      rw [if_neg (nI_nlt (by omega) (by omega)), z.1, if_pos (nI_lt ht0 (by omega)), ix_nI (by omega), zt.1, zt.2.1, if_pos rfl, if_pos rfl]
      exact ⟨in_nI (by omega) (by decide), in_nI (by omega) (by decide), rfl⟩
    | succ f ih =>
      intro lo hi hf h1 h2 h3
      by_cases q : lo < hi
      · have zt := z.2 ((lo + hi) / 2) (by omega)
        have j1 := jt ((lo + hi) / 2) (by omega)
        have j2 := jt t0 ht0
        have v1 := vt ((lo + hi) / 2)
        have v2 := vt t0
        have g55 : (lo + hi) / 2 < t0 → XX true 1 68 55 [.ref 123, .int (nI (v_sJ c n K P B p t0)), .int (nI (v_sV c n K P B p t0)), ax_junk, .int (nI hi), .int (nI ((lo + hi) / 2))] [] (h) ((some (.int (nI t0)), h)) := by
          intro y
          refine wb_X5_find_55 ?_
          rw [nI_s]
          refine wb_X5_find_67 ?_
          exact ih _ _ (by omega) (by omega) h2 h3
        have g63 : t0 ≤ (lo + hi) / 2 → XX true 1 68 63 [.ref 123, .int (nI (v_sJ c n K P B p t0)), .int (nI (v_sV c n K P B p t0)), .int (nI lo), ax_junk, .int (nI ((lo + hi) / 2))] [] (h) ((some (.int (nI t0)), h)) := by
          intro y
          refine wb_X5_find_63 ?_
          refine wb_X5_find_67 ?_
          exact ih _ _ (by omega) h1 y (by omega)
        refine wb_X5_find_8 ?_
        rw [if_pos (nI_lt q (by omega)), nI_add, nI_divI (by omega) (by omega), ix_nI (by omega), zt.1, zt.2.1]
        refine ⟨by decide, in_nI (by omega) (by decide), ?_⟩
        by_cases y : (lo + hi) / 2 < t0
        · have lt := v_set_lt s y ht0
          by_cases x : v_sJ c n K P B p ((lo + hi) / 2) < v_sJ c n K P B p t0
          · rw [if_pos (nI_lt x (by omega))]
            exact g55 y
          · have lt2 := lt.resolve_left x
            rw [if_neg (nI_nlt (by omega) (by omega)), if_pos (congrArg nI lt2.1), if_pos (nI_lt lt2.2 (by omega))]
            exact ⟨in_nI (by omega) (by decide), in_nI (by omega) (by decide), g55 y⟩
        · have y' : t0 ≤ (lo + hi) / 2 := by omega
          have le : v_sJ c n K P B p t0 < v_sJ c n K P B p ((lo + hi) / 2) ∨ (v_sJ c n K P B p t0 = v_sJ c n K P B p ((lo + hi) / 2) ∧ v_sV c n K P B p t0 ≤ v_sV c n K P B p ((lo + hi) / 2)) := by
            by_cases e : t0 = (lo + hi) / 2
            · rw [← e]
              exact Or.inr ⟨rfl, Nat.le_refl _⟩
            · exact (v_set_lt s (show t0 < (lo + hi) / 2 by omega) (by omega)).imp id (fun z => ⟨z.1, Nat.le_of_lt z.2⟩)
          rw [if_neg (nI_nlt (by omega) (by omega))]
          refine ⟨in_nI (by omega) (by decide), ?_⟩
          by_cases x : v_sJ c n K P B p ((lo + hi) / 2) = v_sJ c n K P B p t0
          · have le2 := le.resolve_left (by omega)
            rw [if_pos (congrArg nI x), if_neg (nI_nlt le2.2 (by omega))]
            exact ⟨in_nI (by omega) (by decide), g63 y'⟩
          · rw [if_neg (fun w => x ((nI_eq (by omega) (by omega)).mp w))]
            exact g63 y'
      · exact ih lo hi (by omega) h1 h2 h3
  refine wb_X5_find_0 ?_
  rw [z.1]
  exact lp (v_sM c n K P B p) 0 _ (by omega) (Nat.zero_le _) (by omega) (Nat.le_refl _)
end S65
