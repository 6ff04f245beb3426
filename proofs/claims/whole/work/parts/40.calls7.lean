/-! THE REFERENCE'S CALLS: replies -/
section S40
variable {c n np nr : Nat} {K P B T C : Nat → Nat} {U : Nat → Nat → Nat} {V W : Nat → Int} {h h' : AH}
theorem sumZ_b {f : Nat → Int} : True := trivial
theorem v_go_le {S : (Nat → Nat) → Int} {b : Nat → Nat} {M : Nat} {lo hi : Int} (hS : ∀ tr, lo ≤ S tr ∧ S tr ≤ hi) : ∀ f tr x bt, lo ≤ x → x ≤ hi → lo ≤ (v_go S b M f tr x bt).1 ∧ (v_go S b M f tr x bt).1 ≤ hi
  | 0, _, _, _, h1, h2 => ⟨h1, h2⟩
  | f + 1, tr, x, bt, h1, h2 => by
    unfold v_go
    split
    · split
      · exact v_go_le hS f _ _ _ (hS _).1 (hS _).2
      · exact v_go_le hS f _ _ _ h1 h2
    · exact ⟨h1, h2⟩
theorem v_go_tr {S : (Nat → Nat) → Int} {b : Nat → Nat} {M : Nat} : ∀ f tr x bt, (∀ t, t < M → tr t < b t) → (∀ t, t < M → bt t < b t) → ∀ t, t < M → (v_go S b M f tr x bt).2 t < b t
  | 0, _, _, _, _, h2 => h2
  | f + 1, tr, x, bt, h1, h2 => by
    have h3 := v_nxt_lt b M tr h1
    unfold v_go
    split
    · split
      · exact v_go_tr f _ _ _ h3 h3
      · exact v_go_tr f _ _ _ h3 h2
    · exact h2
theorem v_rep_le (s : okS c n K P B) (r : okR nr U V) (w : ∀ i, i < 5 → -9 ≤ W i ∧ W i ≤ 9) (ch : Nat → Nat → Nat → Nat) (p : Nat) : -30000000 ≤ (v_rep c n K P B ch U V W nr p).1 ∧ (v_rep c n K P B ch U V W nr p).1 ≤ 30000000 := v_go_le (fun tr => v_trS_le s r w ch p tr) 800 _ _ _ (v_trS_le s r w ch p _).1 (v_trS_le s r w ch p _).2
theorem v_rep_tr (s : okS c n K P B) (ch : Nat → Nat → Nat → Nat) (p : Nat) : ∀ t, t < v_sM c n K P B p → (v_rep c n K P B ch U V W nr p).2 t < B (v_sJ c n K P B p t) := by
  have z : ∀ t, t < v_sM c n K P B p → (fun _ : Nat => 0) t < B (v_sJ c n K P B p t) := fun t ht => by have := v_setB s ht; show 0 < _; omega
  exact v_go_tr 800 _ _ _ z z
/-- a part of a fraction in lowest terms -/
def v_frac (A : Int) (D : Nat) (part : Int32) : Int64 := (if part = nI 0 then lI A else lN D) / lN (Nat.gcd A.natAbs D)
noncomputable def a_reply (c n : Nat) (K P B : Nat → Nat) (ch : Nat → Nat → Nat → Nat) (U : Nat → Nat → Nat) (V W : Nat → Int) (nr : Nat) (p part : Int32) : Int64 := if isPl p ∧ isPt part then (if 729 < v_much c n K P B (ix p) (v_sM c n K P B (ix p)) then lNO 5 else v_frac (v_rep c n K P B ch U V W nr (ix p)).1 (v_chn c K B n) part) else lNO 2
theorem mo_reply (s : mS c n K P B h) (t : mP np T C h) (r : mR nr U V h) (w : mW W h) (p part : Int32) : ∃ h', XX true 19 214 0 [.ref 153, .int (p), .int (part)] [] (h) (some (.long (a_reply c n K P B (v_chs np T C B) U V W nr p part)), h') ∧ fr frR h h' := by
  have h6 := s.n6
  have wl := v_ways_le s.1 (Nat.le_refl n)
  unfold a_reply
  have no : ∀ R, R = (some (Value.long (lNO 2)), h) → XX true 19 214 14 [ax_junk, ax_junk, ax_junk] [] (h) (R) := by
    intro R z
    refine wb_X12_reply_14 ?_
    refine (cl_X12_reply_16 rfl (by decide) (sp_refused _ _)).mpr ?_
    refine wb_X12_reply_19 ?_
    exact z
  by_cases q : isPl p ∧ isPt part
  · obtain ⟨q0, q1⟩ := id q
    obtain ⟨a, ha, rfl⟩ := q0.ex
    rw [if_pos q, ix_nI (by omega)]
    obtain ⟨h1, r1, f1, z1⟩ := sp_isMuch s ha
    have s1 : mS c n K P B h1 := s.fr f1 rfl
    have pre : ∀ R, XX true 19 214 25 [.ref 153, .int (nI a), .int (part)] [.int (b2i (729 < v_much c n K P B a (v_sM c n K P B a)))] (h1) (R) → XX true 19 214 0 [.ref 153, .int (nI a), .int part] [] h R := by
      intro R u
      refine wb_X12_reply_0 ?_
      refine (cl_X12_reply_1 rfl (by decide) (sp_isPlayer _ _)).mpr ?_
      refine wb_X12_reply_4 ?_
      rw [b2i_t q0, if_neg (by decide)]
      refine (cl_X12_reply_8 rfl (by decide) (sp_isPart _ _)).mpr ?_
      refine wb_X12_reply_11 ?_
      rw [b2i_t q1, if_neg (by decide)]
      refine (cl_X12_reply_22 rfl (by decide) (r1)).mpr ?_
      exact u
    by_cases q2 : 729 < v_much c n K P B a (v_sM c n K P B a)
    · rw [if_pos q2]
      refine ⟨h1, pre _ ?_, f1.mono rfl⟩
      refine wb_X12_reply_25 ?_
      rw [b2i_t q2, if_neg (by decide)]
      refine (cl_X12_reply_30 rfl (by decide) (sp_refused _ _)).mpr ?_
      refine wb_X12_reply_33 ?_
      rfl
    · rw [if_neg q2]
      obtain ⟨h2, r2, f2, z2, b2⟩ := sp_findsReply s1 (t.fr f1 rfl) (w.fr f1 (fun _ => rfl)) (r.fr f1 (fun _ => rfl) rfl) ha (by omega)
      have s2 : mS c n K P B h2 := s1.fr f2 rfl
      have cb := v_chn_le s.1 n (Nat.le_refl _)
      have cc := sp_chanceBelow s2
      have rb := v_rep_le (nr := nr) (U := U) (V := V) (W := W) s.1 r.2.1 (fun i hi => (w i hi).2) (v_chs np T C B) a
      have bx := b2.1
      generalize (v_rep c n K P B (v_chs np T C B) U V W nr a).1 = A at *
      generalize v_chn c K B n = D at *
      have AT : (lI A).toInt = A := lI_toInt (by omega) (by omega)
      have g1 : 0 < Nat.gcd A.natAbs D := Nat.gcd_pos_of_pos_right _ (by omega)
      have g2 : Nat.gcd A.natAbs D ≤ D := Nat.gcd_le_right _ (by omega)
      have dv1 := sp_divisor (lI A) (b := D) (by rw [AT]; omega) (by omega) h2
      rw [AT] at dv1
      refine ⟨h2, pre _ ?_, (f1.mono rfl).trans f2⟩
      have fin : ∀ x, XX true 19 214 54 [.ref 153, ax_junk, ax_junk] [.long (x)] (h2) ((some (.long (x / lN (Nat.gcd A.natAbs D))), h2)) := by
        intro x
        refine wb_X12_reply_54 ?_
        rw [bx]
        refine (cl_X12_reply_59 rfl (by decide) (cc)).mpr ?_
        refine (cl_X12_reply_62 rfl (by decide) (dv1)).mpr ?_
        refine wb_X12_reply_65 ?_
        refine ⟨?_, rfl⟩
        simp only [Bool.not_eq_true', decide_eq_false_iff_not]
        intro z
        have := (pk_lEQ (b := 0) (by omega) (by omega)).mp z
        omega
      refine wb_X12_reply_25 ?_
      rw [b2i_f q2, if_pos rfl]
      refine (cl_X12_reply_36 rfl (by decide) (r2)).mpr ?_
      refine wb_X12_reply_39 ?_
      unfold v_frac
      by_cases q3 : part = nI 0
      · rw [if_pos q3, if_pos q3, bx]
        exact wk_X12_reply_54 (fin _)
      · rw [if_neg q3, if_neg q3]
        refine (cl_X12_reply_51 rfl (by decide) (cc)).mpr ?_
        exact wk_X12_reply_54 (fin _)
  · rw [if_neg q]
    refine ⟨h, ?_, fr.rfl'⟩
    refine wb_X12_reply_0 ?_
    refine (cl_X12_reply_1 rfl (by decide) (sp_isPlayer _ _)).mpr ?_
    refine wb_X12_reply_4 ?_
    by_cases q0 : isPl p
    · rw [b2i_t q0, if_neg (by decide)]
      refine (cl_X12_reply_8 rfl (by decide) (sp_isPart _ _)).mpr ?_
      refine wb_X12_reply_11 ?_
      rw [b2i_f (fun z => q ⟨q0, z⟩), if_pos rfl]
      exact wk_X12_reply_14 (no _ rfl)
    · rw [b2i_f q0, if_pos rfl]
      exact wk_X12_reply_14 (no _ rfl)
end S40
