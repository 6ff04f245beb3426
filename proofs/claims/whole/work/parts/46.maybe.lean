/-! THE REFERENCE'S CALLS: what may have happened; plans out of a sheet -/
section S46
variable {c n np nr : Nat} {K P B T C : Nat → Nat} {sS sZ : Nat → Nat} {sN : Nat → Nat → Int32} {h h' : AH}
/-- whether an event can have happened in a stage of a way that looks so -/
def v_may (c : Nat) (K P B : Nat → Nat) (p j : Nat) (v : Int32) (i e m : Nat) : Prop := ∃ w, w < m ∧ nI (v_vw c K P B p j w) = v ∧ v_what c K B j w i = e
noncomputable def v_mayN (c : Nat) (K P B : Nat → Nat) (p j : Nat) (v : Int32) (i m : Nat) (e : Nat) : Int32 := @ite _ (v_may c K P B p j v i e m) (Classical.propDecidable _) (nI 1) (nI 0)
theorem v_mayN_0 (p j : Nat) (v : Int32) (i e : Nat) : v_mayN c K P B p j v i 0 e = nI 0 := by
  unfold v_mayN
  exact if_neg (fun ⟨w, hw, _⟩ => Nat.not_lt_zero _ hw)
theorem v_mayN_no {p j : Nat} {v : Int32} {i m : Nat} (q : nI (v_vw c K P B p j m) ≠ v) (e : Nat) : v_mayN c K P B p j v i (m + 1) e = v_mayN c K P B p j v i m e := by
  unfold v_mayN
  congr 1
  refine propext ⟨fun ⟨w, hw, a, b⟩ => ?_, fun ⟨w, hw, a, b⟩ => ⟨w, by omega, a, b⟩⟩
  by_cases z : w = m
  · rw [z] at a; exact absurd a q
  · exact ⟨w, by omega, a, b⟩
theorem v_mayN_yes {p j : Nat} {v : Int32} {i m : Nat} (q : nI (v_vw c K P B p j m) = v) : v_mayN c K P B p j v i (m + 1) (v_what c K B j m i) = nI 1 := by
  unfold v_mayN
  exact if_pos ⟨m, by omega, q, rfl⟩
theorem v_mayN_oth {p j : Nat} {v : Int32} {i m e : Nat} (q : e ≠ v_what c K B j m i) : v_mayN c K P B p j v i (m + 1) e = v_mayN c K P B p j v i m e := by
  unfold v_mayN
  congr 1
  refine propext ⟨fun ⟨w, hw, a, b⟩ => ?_, fun ⟨w, hw, a, b⟩ => ⟨w, by omega, a, b⟩⟩
  by_cases z : w = m
  · rw [z] at b; exact absurd b.symm q
  · exact ⟨w, by omega, a, b⟩
/-- the sum of the first words -/
def sumI (f : Nat → Int32) : Nat → Int32
  | 0 => nI 0
  | m + 1 => sumI f m + f m
abbrev maybeOk (n : Nat) (s p j i : Int32) : Prop := isLe 3 s ∧ isPl p ∧ isLe n j ∧ isLt (ix j) i
noncomputable def a_maybe (c n : Nat) (K P B : Nat → Nat) (s p j v i : Int32) : Int32 := if maybeOk n s p j i then sumI (v_mayN c K P B (ix p) (ix j) v (ix i) (v_ways c K B (ix j))) 5 else -nI 2
/-- the sheet's numbers behind it -/
noncomputable def v_mayR (c : Nat) (K P B : Nat → Nat) (p j : Nat) (v : Int32) (i m : Nat) : Nat → Int32 := fun e => if e < 5 then v_mayN c K P B p j v i m e else nI 0
abbrev frM' : List (Nat × Option Nat) := [(160, none), (173, none), (174, none), (175, none)]
theorem mo_maybe (st : mS c n K P B h) (m : mSh sS sZ sN h) (s p j v i : Int32) : (maybeOk n s p j i → ∃ h', XX true 5 236 0 [.ref 153, .int (s), .int (p), .int (j), .int (v), .int (i), ax_junk, ax_junk, ax_junk] [] (h) (some (.int (a_maybe c n K P B s p j v i)), h') ∧ fr frM' h h' ∧ mSh (updN sS (ix s) 1) (updN sZ (ix s) 5) (updN sN (ix s) (v_mayR c K P B (ix p) (ix j) v (ix i) (v_ways c K B (ix j)))) h') ∧ (¬ maybeOk n s p j i → XX true 5 236 0 [.ref 153, .int (s), .int (p), .int (j), .int (v), .int (i), ax_junk, ax_junk, ax_junk] [] (h) (some (.int (a_maybe c n K P B s p j v i)), h)) := by
  have h6 := st.n6
  unfold a_maybe
  have pre : ∀ R, (¬ maybeOk n s p j i → R = (some (.int (-nI 2)), h)) → (maybeOk n s p j i → XX true 5 236 43 [.ref 153, .int s, .int p, .int j, .int v, .int i, ax_junk, ax_junk, ax_junk] [.int (nI 5), .int (nI 0), .int s, .ref 153] h R) → XX true 5 236 0 [.ref 153, .int s, .int p, .int j, .int v, .int i, ax_junk, ax_junk, ax_junk] [] h R := by
    intro R u u2
    refine wb_X12_maybe_0 ?_
    refine (cl_X12_maybe_1 rfl (by decide) (sp_isSheet _ _)).mpr ?_
    refine wb_X12_maybe_4 ?_
    by_cases q0 : isLe 3 s
    · rw [b2i_t q0, if_neg (by decide)]
      refine (cl_X12_maybe_8 rfl (by decide) (sp_isPlayer _ _)).mpr ?_
      refine wb_X12_maybe_11 ?_
      by_cases q1 : isPl p
      · rw [b2i_t q1, if_neg (by decide)]
        refine (cl_X12_maybe_16 rfl (by decide) (sp_isBehind st _)).mpr ?_
        refine wb_X12_maybe_19 ?_
        by_cases q2 : isLe n j
        · rw [b2i_t q2, if_neg (by decide)]
          obtain ⟨b, hb, rfl⟩ := q2.ex (by omega)
          have eb : ix (nI b) = b := ix_nI (by omega)
          refine (cl_X12_maybe_30 rfl (by decide) (sp_in _ _ _ _)).mpr ?_
          refine wb_X12_maybe_33 ?_
          rw [b2i_cong (in_pred (by omega) i)]
          by_cases q3 : isLt b i
          · rw [b2i_t q3, if_neg (by decide)]
            exact u2 ⟨q0, q1, q2, by rw [eb]; exact q3⟩
          · rw [b2i_f q3, if_pos rfl]
            exact u (fun z => q3 (by have := z.2.2.2; rw [eb] at this; exact this))
        · rw [b2i_f q2, if_pos rfl]
          exact u (fun z => q2 z.2.2.1)
      · rw [b2i_f q1, if_pos rfl]
        exact u (fun z => q1 z.2.1)
    · rw [b2i_f q0, if_pos rfl]
      exact u (fun z => q0 z.1)
  constructor
  · intro q
    obtain ⟨q0, q1, q2, q3⟩ := id q
    obtain ⟨s', hs, rfl⟩ := q0.ex (by decide)
    obtain ⟨a, ha, rfl⟩ := q1.ex
    obtain ⟨b, hb, rfl⟩ := q2.ex (by omega)
    have es : ix (nI s') = s' := ix_nI (by omega)
    have ea : ix (nI a) = a := ix_nI (by omega)
    have eb : ix (nI b) = b := ix_nI (by omega)
    rw [eb] at q3
    obtain ⟨d, hd, rfl⟩ := q3.ex (by omega)
    have ed : ix (nI d) = d := ix_nI (by omega)
    simp only [es, ea, eb, ed]
    have wl := v_ways_le st.1 hb
    obtain ⟨h1, r1, f1, m1⟩ := sp_becomes m (s := s') (x := 1) (k := nI 5) (k' := 5) (by omega) (by decide) (fun _ => ⟨rfl, by decide⟩)
    rw [if_neg (by decide)] at m1
    have s1 : mS c n K P B h1 := st.fr f1 rfl
    have sum : ∀ k e, e + k = 5 → ∀ h2, mSh (updN sS s' 1) (updN sZ s' 5) (updN sN s' (v_mayR c K P B a b v d (v_ways c K B b))) h2 → XX true 5 236 111 [.ref 153, .int (nI s'), ax_junk, ax_junk, ax_junk, ax_junk, ax_junk, .int (sumI (v_mayN c K P B a b v d (v_ways c K B b)) e), .int (nI e)] [] (h2) ((some (.int (sumI (v_mayN c K P B a b v d (v_ways c K B b)) 5)), h2)) := by
      intro k
      induction k with
      | zero =>
        intro e he h2 m2
        obtain rfl : e = 5 := he
        refine wb_X12_maybe_111 ?_
        rw [if_neg (by decide)]
      | succ k ih =>
        intro e he h2 m2
        have c1 := (m2 s' (by omega)).2.2.2.2 e (by omega)
        rw [updN_s] at c1
        unfold v_mayR at c1
        rw [if_pos (show e < 5 by omega)] at c1
        refine wb_X12_maybe_111 ?_
        rw [if_pos (nI_lt (by omega) (by omega)), nI_mulI, nI_add, ix_nI (by omega), c1, nI_s]
        exact ⟨in_nI (by omega) (by decide), wk_X12_maybe_111 (ih (e + 1) (by omega) h2 m2)⟩
    have lp : ∀ k w, w + k = v_ways c K B b → ∀ h2, fr frM' h h2 → mSh (updN sS s' 1) (updN sZ s' 5) (updN sN s' (v_mayR c K P B a b v d w)) h2 → ∃ h', XX true 5 236 56 [.ref 153, .int (nI s'), .int (nI a), .int (nI b), .int (v), .int (nI d), .int (nI (v_ways c K B b)), .int (nI w), ax_junk] [] (h2) ((some (.int (sumI (v_mayN c K P B a b v d (v_ways c K B b)) 5)), h')) ∧ fr frM' h h' ∧ mSh (updN sS s' 1) (updN sZ s' 5) (updN sN s' (v_mayR c K P B a b v d (v_ways c K B b))) h' := by
      intro k
      induction k with
      | zero =>
        intro w hw h2 f2 m2
        obtain rfl : w = v_ways c K B b := hw
        refine ⟨h2, ?_, f2, m2⟩
        refine wb_X12_maybe_56 ?_
        rw [if_neg (nI_nlt (Nat.le_refl _) (by omega))]
        exact wk_X12_maybe_111 (sum 5 0 rfl h2 m2)
      | succ k ih =>
        intro w hw h2 f2 m2
        have s2 : mS c n K P B h2 := st.fr f2 rfl
        obtain ⟨h3, r3, f3, o⟩ := sp_lays s2 hb (w := w) (by omega)
        have s3 : mS c n K P B h3 := s2.fr f3 rfl
        have f23 : fr frM' h h3 := f2.trans (f3.mono rfl)
        have m3 := m2.fr f3 (fun _ => rfl) (fun _ => rfl) (fun _ => rfl)
        have wd := v_what_lt st.1 hb w hd
        have nxt : ∀ h4 R, XX true 5 236 56 [.ref 153, .int (nI s'), .int (nI a), .int (nI b), .int (v), .int (nI d), .int (nI (v_ways c K B b)), .int (nI (w + 1)), ax_junk] [] (h4) (R) → XX true 5 236 99 [.ref 153, .int (nI s'), .int (nI a), .int (nI b), .int (v), .int (nI d), .int (nI (v_ways c K B b)), .int (nI w), ax_junk] [] (h4) (R) := by
          intro h4 R u
          refine wb_X12_maybe_99 ?_
          rw [nI_s]
          exact wk_X12_maybe_56 u
        have pr2 : ∀ R, XX true 5 236 76 [.ref 153, .int (nI s'), .int (nI a), .int (nI b), .int (v), .int (nI d), .int (nI (v_ways c K B b)), .int (nI w), ax_junk] [.int (nI (v_vw c K P B a b w))] (h3) (R) → XX true 5 236 56 [.ref 153, .int (nI s'), .int (nI a), .int (nI b), .int (v), .int (nI d), .int (nI (v_ways c K B b)), .int (nI w), ax_junk] [] (h2) (R) := by
          intro R u
          refine wb_X12_maybe_56 ?_
          rw [if_pos (nI_lt (by omega) (by omega))]
          refine (cl_X12_maybe_67 rfl (by decide) (r3)).mpr ?_
          refine wb_X12_maybe_70 ?_
          refine (cl_X12_maybe_73 rfl (by decide) (sp_viewOf s3 hb ha o (Nat.le_refl _))).mpr ?_
          exact wk_X12_maybe_76 u
        by_cases z : nI (v_vw c K P B a b w) = v
        · obtain ⟨h', r', y⟩ := ih (w + 1) (by omega) (ax_wr h3 175 (40 * s' + v_what c K B b w d) (.int (nI 1))) (f23.wr' (by simp [inS])) (fun t ht => ⟨(m3 t ht).1, (m3 t ht).2.1, by rw [wr_Ia (by decide)]; exact (m3 t ht).2.2.1, by rw [wr_Ia (by decide)]; exact (m3 t ht).2.2.2.1, fun e he => by
            by_cases e1 : t = s'
            · rw [e1, updN_s]
              have c1 := (m3 t ht).2.2.2.2 e he
              rw [e1, updN_s] at c1
              unfold v_mayR at c1 ⊢
              by_cases e2 : e = v_what c K B b w d
              · rw [e2, wr_I, if_pos wd, v_mayN_yes z]
              · rw [wr_Ij (by omega), c1, v_mayN_oth e2]
            · rw [updN_o e1, wr_Ij (by omega)]
              have c1 := (m3 t ht).2.2.2.2 e he
              rw [updN_o e1] at c1
              exact c1⟩)
          refine ⟨h', pr2 _ ?_, y⟩
          refine wb_X12_maybe_76 ?_
          rw [if_pos z, ix_nI (by omega), o d hd, nI_mulI, nI_add, ix_nI (by omega)]
          exact ⟨in_nI (by omega) (by decide), in_nI (by omega) (by decide), wk_X12_maybe_99 (nxt _ _ r')⟩
        · have er : v_mayR c K P B a b v d (w + 1) = v_mayR c K P B a b v d w := by
            funext e
            unfold v_mayR
            rw [v_mayN_no z]
          obtain ⟨h', r', y⟩ := ih (w + 1) (by omega) h3 f23 (by rw [er]; exact m3)
          refine ⟨h', pr2 _ ?_, y⟩
          refine wb_X12_maybe_76 ?_
          rw [if_neg z]
          exact wk_X12_maybe_99 (nxt _ _ r')
    have e0 : v_mayR c K P B a b v d 0 = fun _ => nI 0 := by
      funext e
      unfold v_mayR
      rw [v_mayN_0]
      split <;> rfl
    obtain ⟨h', r', y⟩ := lp _ 0 (Nat.zero_add _) h1 (f1.mono rfl) (by rw [e0]; exact m1)
    refine ⟨h', pre _ (fun z => absurd q z) (fun _ => ?_), y⟩
    rw [if_pos q]
    refine (cl_X12_maybe_43 rfl (by decide) (r1)).mpr ?_
    refine wb_X12_maybe_46 ?_
    refine (cl_X12_maybe_48 rfl (by decide) (sp_waysBehind s1 hb)).mpr ?_
    refine wb_X12_maybe_51 ?_
    exact wk_X12_maybe_56 r'
  · intro q
    exact pre _ (fun z => by rw [if_neg z]) (fun z => absurd z q)
end S46
