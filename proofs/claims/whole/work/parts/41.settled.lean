/-! THE REFERENCE'S CALLS: settled -/
section S41
variable {c n np nr : Nat} {K P B T C : Nat → Nat} {U : Nat → Nat → Nat} {V W : Nat → Int} {h h' : AH}
abbrev muchP (c n : Nat) (K P B : Nat → Nat) (p : Nat) : Prop := 729 < v_much c n K P B p (v_sM c n K P B p)
abbrev bestP (c n : Nat) (K P B : Nat → Nat) (ch : Nat → Nat → Nat → Nat) (U : Nat → Nat → Nat) (V W : Nat → Int) (nr p : Nat) : Prop := (v_rep c n K P B ch U V W nr p).1 = sumZ (v_sumf c n K P B ch U V W nr 3 p) (v_ways c K B n)
/-- what the check that nobody can do better answers -/
def isSettled (c n : Nat) (K P B : Nat → Nat) (ch : Nat → Nat → Nat → Nat) (U : Nat → Nat → Nat) (V W : Nat → Int) (nr : Nat) (r : Int32) : Prop := ((∃ p, p < 3 ∧ muchP c n K P B p) ∧ r = -nI 5) ∨ ((∀ p, p < 3 → ¬ muchP c n K P B p) ∧ (∀ p, p < 3 → bestP c n K P B ch U V W nr p) ∧ r = nI 1) ∨ ((∀ p, p < 3 → ¬ muchP c n K P B p) ∧ (∃ p, p < 3 ∧ ¬ bestP c n K P B ch U V W nr p) ∧ r = nI 0)
theorem mo_settled (s : mS c n K P B h) (t : mP np T C h) (r : mR nr U V h) (w : mW W h) : ∃ h' x, XX true 19 222 0 [.ref 153, ax_junk] [] (h) (some (.int (x)), h') ∧ fr frR h h' ∧ isSettled c n K P B (v_chs np T C B) U V W nr x := by
  have wl := v_ways_le s.1 (Nat.le_refl n)
  have lp2 : ∀ k p, p + k = 3 → (∀ p, p < 3 → ¬ muchP c n K P B p) → (∀ p', p' < p → bestP c n K P B (v_chs np T C B) U V W nr p') → ∀ h1, fr frR h h1 → ∃ h' x, XX true 19 222 26 [.ref 153, .int (nI p)] [] (h1) ((some (.int x), h')) ∧ fr frR h h' ∧ isSettled c n K P B (v_chs np T C B) U V W nr x := by
    intro k
    induction k with
    | zero =>
      intro p hp nm al h1 f1
      obtain rfl : p = 3 := hp
      refine ⟨h1, nI 1, ?_, f1, Or.inr (Or.inl ⟨nm, al, rfl⟩)⟩
      refine wb_X12_settled_26 ?_
      rw [if_neg (by decide)]
    | succ k ih =>
      intro p hp nm al h1 f1
      have s1 : mS c n K P B h1 := s.fr f1 rfl
      obtain ⟨h2, r2, f2, z2, b2⟩ := sp_findsReply s1 (t.fr f1 rfl) (w.fr f1 (fun _ => rfl)) (r.fr f1 (fun _ => rfl) rfl) (p := p) (by omega) (by have := nm p (by omega); omega)
      have f12 := f1.trans f2
      have s2 : mS c n K P B h2 := s.fr f12 rfl
      obtain ⟨h3, r3, f3⟩ := sp_sumOf s2 (t.fr f12 rfl) (w.fr f12 (fun _ => rfl)) (r.fr f12 (fun _ => rfl) rfl) (p := p) (by omega)
      have f13 : fr frR h h3 := f12.trans (f3.mono rfl)
      have rb := v_rep_le (nr := nr) (U := U) (V := V) (W := W) s.1 r.2.1 (fun i hi => (w i hi).2) (v_chs np T C B) p
      have sb := sumZ_le (v_sumf_le (nr := nr) (U := U) (V := V) (W := W) s.1 r.2.1 (fun i hi => (w i hi).2) (v_chs np T C B) 3 p) (v_ways c K B n)
      have pre : ∀ R, XX true 19 222 45 [.ref 153, .int (nI p)] [.long (lI (sumZ (v_sumf c n K P B (v_chs np T C B) U V W nr 3 p) (v_ways c K B n))), .long (lI (v_rep c n K P B (v_chs np T C B) U V W nr p).1)] (h3) (R) → XX true 19 222 26 [.ref 153, .int (nI p)] [] (h1) (R) := by
        intro R u
        refine wb_X12_settled_26 ?_
        rw [if_pos (nI_lt (by omega) (by omega))]
        refine (cl_X12_settled_33 rfl (by decide) (r2)).mpr ?_
        refine wb_X12_settled_36 ?_
        rw [b2.1]
        refine (cl_X12_settled_42 rfl (by decide) (r3)).mpr ?_
        exact u
      by_cases q : bestP c n K P B (v_chs np T C B) U V W nr p
      · obtain ⟨h', x, r', f', y⟩ := ih (p + 1) (by omega) nm (fun p' hp' => by
          by_cases e : p' = p
          · rw [e]; exact q
          · exact al p' (by omega)) h3 f13
        refine ⟨h', x, pre _ ?_, f', y⟩
        refine wb_X12_settled_45 ?_
        rw [if_pos ((lg_eq0 _ _).mpr (congrArg lI q)), nI_s]
        exact r'
      · refine ⟨h3, nI 0, pre _ ?_, f13, Or.inr (Or.inr ⟨nm, ⟨p, by omega, q⟩, rfl⟩)⟩
        refine wb_X12_settled_45 ?_
        rw [if_neg (fun z => q (by
          have := congrArg Int64.toInt ((lg_eq0 _ _).mp z)
          rw [lI_toInt (by omega) (by omega), lI_toInt (by omega) (by omega)] at this
          exact this))]
  have lp1 : ∀ k p, p + k = 3 → (∀ p', p' < p → ¬ muchP c n K P B p') → ∀ h1, fr frR h h1 → ∃ h' x, XX true 19 222 2 [.ref 153, .int (nI p)] [] (h1) ((some (.int x), h')) ∧ fr frR h h' ∧ isSettled c n K P B (v_chs np T C B) U V W nr x := by
    intro k
    induction k with
    | zero =>
      intro p hp al h1 f1
      obtain rfl : p = 3 := hp
      obtain ⟨h', x, r', f', y⟩ := lp2 3 0 rfl al (fun p' hp' => absurd hp' (Nat.not_lt_zero _)) h1 f1
      refine ⟨h', x, ?_, f', y⟩
      refine wb_X12_settled_2 ?_
      rw [if_neg (by decide)]
      exact r'
    | succ k ih =>
      intro p hp al h1 f1
      have s1 : mS c n K P B h1 := s.fr f1 rfl
      obtain ⟨h2, r2, f2, _⟩ := sp_isMuch s1 (p := p) (by omega)
      have f12 : fr frR h h2 := f1.trans (f2.mono rfl)
      by_cases q : muchP c n K P B p
      · refine ⟨h2, -nI 5, ?_, f12, Or.inl ⟨⟨p, by omega, q⟩, rfl⟩⟩
        refine wb_X12_settled_2 ?_
        rw [if_pos (nI_lt (by omega) (by omega))]
        refine (cl_X12_settled_9 rfl (by decide) (r2)).mpr ?_
        refine wb_X12_settled_12 ?_
        rw [b2i_t q, if_neg (by decide)]
      · obtain ⟨h', x, r', f', y⟩ := ih (p + 1) (by omega) (fun p' hp' => by
          by_cases e : p' = p
          · rw [e]; exact q
          · exact al p' (by omega)) h2 f12
        refine ⟨h', x, ?_, f', y⟩
        refine wb_X12_settled_2 ?_
        rw [if_pos (nI_lt (by omega) (by omega))]
        refine (cl_X12_settled_9 rfl (by decide) (r2)).mpr ?_
        refine wb_X12_settled_12 ?_
        rw [b2i_f q, if_pos rfl, nI_s]
        exact r'
  obtain ⟨h', x, r', f', y⟩ := lp1 3 0 rfl (fun p' hp' => absurd hp' (Nat.not_lt_zero _)) h fr.rfl'
  refine ⟨h', x, ?_, f', y⟩
  refine wb_X12_settled_0 ?_
  exact r'
end S41
