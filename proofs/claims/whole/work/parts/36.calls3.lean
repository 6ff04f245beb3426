/-! THE REFERENCE'S CALLS: sets, recall, plans -/
section S36
variable {c n np nr : Nat} {K P B T C : Nat → Nat} {h h' : AH}
noncomputable def a_sets (c n : Nat) (K P B : Nat → Nat) (p : Int32) : Int32 := if isPl p then nI (v_sM c n K P B (ix p)) else -nI 2
theorem mo_sets (s : mS c n K P B h) (p : Int32) : ∃ h', XX true 7 193 0 [.ref 153, .int (p)] [] (h) (some (.int (a_sets c n K P B p)), h') ∧ fr frS h h' := by
  unfold a_sets
  by_cases q : isPl p
  · rw [if_pos q]
    obtain ⟨a, ha, rfl⟩ := q.ex
    obtain ⟨h', r, f, z⟩ := sp_laysSets s ha
    rw [ix_nI (by omega)]
    refine ⟨h', ?_, f⟩
    refine wb_X12_sets_0 ?_
    refine (cl_X12_sets_1 rfl (by decide) (sp_isPlayer _ _)).mpr ?_
    refine wb_X12_sets_4 ?_
    rw [b2i_t q, if_neg (by decide)]
    refine (cl_X12_sets_12 rfl (by decide) (r)).mpr ?_
    refine wb_X12_sets_15 ?_
    rw [z.1]
  · rw [if_neg q]
    refine ⟨h, ?_, fr.rfl'⟩
    refine wb_X12_sets_0 ?_
    refine (cl_X12_sets_1 rfl (by decide) (sp_isPlayer _ _)).mpr ?_
    refine wb_X12_sets_4 ?_
    rw [b2i_f q, if_pos rfl]
noncomputable def a_setOf (c n : Nat) (K P B : Nat → Nat) (ch : Nat → Nat → Nat → Nat) (p t w : Int32) : Int32 := if isPl p ∧ isLe 3 w then (if isLt (v_sM c n K P B (ix p)) t then (if w = nI 0 then nI (v_sJ c n K P B (ix p) (ix t)) else if w = nI 1 then nI (v_sV c n K P B (ix p) (ix t)) else if w = nI 2 then nI (cntN (fun x => decide ((nI (v_vw c K P B (ix p) (v_sJ c n K P B (ix p) (ix t)) x)).toInt64 = (nI (v_sV c n K P B (ix p) (ix t))).toInt64)) (v_ways c K B (v_sJ c n K P B (ix p) (ix t)))) else nI (ch (ix p) (v_sJ c n K P B (ix p) (ix t)) (v_sV c n K P B (ix p) (ix t)))) else -nI 12) else -nI 2
theorem mo_setOf (s : mS c n K P B h) (tt : mP np T C h) (p t w : Int32) : ∃ h', XX true 7 196 0 [.ref 153, .int (p), .int (t), .int (w), ax_junk, ax_junk] [] (h) (some (.int (a_setOf c n K P B (v_chs np T C B) p t w)), h') ∧ fr frS h h' := by
  unfold a_setOf
  have h6 := s.n6
  have e3 : isLe 3 w ↔ lN 0 ≤ w.toInt64 ∧ w.toInt64 ≤ lN 3 := by rw [lN_nI (by decide : 0 < 2 ^ 31), lN_nI (by decide : 3 < 2 ^ 31), toI64_le, toI64_le]
  by_cases q : isPl p ∧ isLe 3 w
  · rw [if_pos q]
    obtain ⟨q0, q1⟩ := q
    obtain ⟨a, ha, rfl⟩ := q0.ex
    obtain ⟨h1, r, f, z⟩ := sp_laysSets s ha
    have s1 : mS c n K P B h1 := s.fr f rfl
    have t1 : mP np T C h1 := tt.fr f rfl
    have m8 := v_sM_le s.1 a
    simp only [ix_nI (show a < 2 ^ 31 by omega)]
    have pre : ∀ R, XX true 7 196 40 [.ref 153, .int (nI a), .int (t), .int (w), ax_junk, ax_junk] [.int (b2i (isLt (v_sM c n K P B a) t))] (h1) (R) → XX true 7 196 0 [.ref 153, .int (nI a), .int t, .int w, ax_junk, ax_junk] [] h R := by
      intro R u
      refine wb_X12_setOf_0 ?_
      refine (cl_X12_setOf_1 rfl (by decide) (sp_isPlayer _ _)).mpr ?_
      refine wb_X12_setOf_4 ?_
      rw [b2i_t q0, if_neg (by decide)]
      refine (cl_X12_setOf_13 rfl (by decide) (sp_in _ _ _ _)).mpr ?_
      refine wb_X12_setOf_16 ?_
      rw [b2i_t (e3.mp q1), if_neg (by decide)]
      refine (cl_X12_setOf_24 rfl (by decide) (r)).mpr ?_
      refine wb_X12_setOf_27 ?_
      rw [z.1]
      refine (cl_X12_setOf_37 rfl (by decide) (sp_in _ _ _ _)).mpr ?_
      rw [b2i_cong (in_pred (by omega) t)]
      exact wk_X12_setOf_40 u
    by_cases q2 : isLt (v_sM c n K P B a) t
    · rw [if_pos q2]
      obtain ⟨k, hk, rfl⟩ := q2.ex (by omega)
      have si := v_set_is s.1 hk
      have vl := v_sV_lt c n K P B a k
      have zz := z.2 k hk
      simp only [ix_nI (show k < 2 ^ 31 by omega)]
      have fin : ∀ v hh R, R = (some (Value.int v), hh) → XX true 7 196 108 [ax_junk, ax_junk, ax_junk, ax_junk, ax_junk, ax_junk] [.int (v)] (hh) (R) := by
        intro v hh R e
        refine wb_X12_setOf_108 ?_
        exact e
      have p40 : ∀ R, (w = nI 0 → XX true 7 196 108 [ax_junk, ax_junk, ax_junk, ax_junk, ax_junk, ax_junk] [.int (nI (v_sJ c n K P B a k))] (h1) (R)) → (w ≠ nI 0 → w = nI 1 → XX true 7 196 108 [ax_junk, ax_junk, ax_junk, ax_junk, ax_junk, ax_junk] [.int (nI (v_sV c n K P B a k))] (h1) (R)) → (w ≠ nI 0 → w ≠ nI 1 → w = nI 2 → XX true 7 196 93 [.ref 153, .int (nI a), .int (nI k), .int w, .int (nI (v_sJ c n K P B a k)), .int (nI (v_sV c n K P B a k))] [.long (nI (v_sV c n K P B a k)).toInt64, .int (nI (v_sJ c n K P B a k)), .int (nI a), .ref 153] h1 R) → (w ≠ nI 0 → w ≠ nI 1 → w ≠ nI 2 → XX true 7 196 105 [.ref 153, .int (nI a), .int (nI k), .int w, .int (nI (v_sJ c n K P B a k)), .int (nI (v_sV c n K P B a k))] [.int (nI (v_sV c n K P B a k)), .int (nI (v_sJ c n K P B a k)), .int (nI a), .ref 153] h1 R) → XX true 7 196 40 [.ref 153, .int (nI a), .int (nI k), .int (w), ax_junk, ax_junk] [.int (nI 1)] (h1) (R) := by
        intro R c0 c1 c2 c3
        refine wb_X12_setOf_40 ?_
        rw [if_neg (by decide), ix_nI (by omega), zz.1, zz.2]
        refine ⟨in_nI (by omega) (by decide), in_nI (by omega) (by decide), ?_⟩
        by_cases w0 : w = nI 0
        · rw [if_pos w0]
          exact wk_X12_setOf_108 (c0 w0)
        · rw [if_neg w0]
          by_cases w1 : w = nI 1
          · rw [if_pos w1]
            exact wk_X12_setOf_108 (c1 w0 w1)
          · rw [if_neg w1]
            by_cases w2 : w = nI 2
            · rw [if_pos w2]
              exact c2 w0 w1 w2
            · rw [if_neg w2]
              exact c3 w0 w1 w2
      rw [b2i_t q2] at pre
      by_cases w0 : w = nI 0
      · refine ⟨h1, pre _ (p40 _ (fun _ => fin _ _ _ (by rw [if_pos w0])) (fun u => absurd w0 u) (fun u => absurd w0 u) (fun u => absurd w0 u)), f⟩
      · by_cases w1 : w = nI 1
        · refine ⟨h1, pre _ (p40 _ (fun u => absurd u w0) (fun _ _ => fin _ _ _ (by rw [if_neg w0, if_pos w1])) (fun _ u => absurd w1 u) (fun _ u => absurd w1 u)), f⟩
        · by_cases w2 : w = nI 2
          · obtain ⟨h2, r2, f2⟩ := sp_worldsOf s1 (Nat.le_of_lt si.1) ha (nI (v_sV c n K P B a k)).toInt64
            refine ⟨h2, pre _ (p40 _ (fun u => absurd u w0) (fun _ u => absurd u w1) (fun _ _ _ => ?_) (fun _ _ u => absurd w2 u)), f.trans (f2.mono rfl)⟩
            refine (cl_X12_setOf_93 rfl (by decide) (r2)).mpr ?_
            refine wb_X12_setOf_96 ?_
            exact wk_X12_setOf_108 (fin _ _ _ (by rw [if_neg w0, if_neg w1, if_pos w2]))
          · refine ⟨h1, pre _ (p40 _ (fun u => absurd u w0) (fun _ u => absurd u w1) (fun _ _ u => absurd u w2) (fun _ _ _ => ?_)), f⟩
            refine (cl_X12_setOf_105 rfl (by decide) (sp_chosen s1 t1 (by omega) si.1 vl)).mpr ?_
            exact wk_X12_setOf_108 (fin _ _ _ (by rw [if_neg w0, if_neg w1, if_neg w2]))
    · rw [if_neg q2]
      refine ⟨h1, pre _ ?_, f⟩
      refine wb_X12_setOf_40 ?_
      rw [b2i_f q2, if_pos rfl]
  · rw [if_neg q]
    refine ⟨h, ?_, fr.rfl'⟩
    refine wb_X12_setOf_0 ?_
    refine (cl_X12_setOf_1 rfl (by decide) (sp_isPlayer _ _)).mpr ?_
    refine wb_X12_setOf_4 ?_
    by_cases q0 : isPl p
    · rw [b2i_t q0, if_neg (by decide)]
      refine (cl_X12_setOf_13 rfl (by decide) (sp_in _ _ _ _)).mpr ?_
      refine wb_X12_setOf_16 ?_
      rw [b2i_f (fun z => q ⟨q0, e3.mpr z⟩), if_pos rfl]
    · rw [b2i_f q0, if_pos rfl]
/-- whether a player remembers -/
theorem mo_recalls (s : mS c n K P B h) (p : Int32) : ∃ h' r, XX true 7 197 0 [.ref 153, .int (p), ax_junk] [] (h) (some (.int (r)), h') ∧ fr [(160, none), (161, none), (162, none), (153, some 14), (163, none)] h h' ∧ ((¬ isPl p ∧ r = -nI 2) ∨ (isPl p ∧ v_rec c n K P B (ix p) ∧ r = nI 1) ∨ (isPl p ∧ ¬ v_rec c n K P B (ix p) ∧ r = nI 0)) := by
  by_cases q : isPl p
  · obtain ⟨a, ha, rfl⟩ := q.ex
    rw [ix_nI (by omega)]
    obtain ⟨h1, r, f, z⟩ := sp_laysSets s ha
    have s1 : mS c n K P B h1 := s.fr f rfl
    have m8 := v_sM_le s.1 a
    have lp : ∀ k t, t + k = v_sM c n K P B a → (∀ t', t' < t → v_rcs c K P B a (v_sJ c n K P B a t') (v_sV c n K P B a t')) → ∀ h2, fr frH h1 h2 → ∃ h' r, XX true 7 197 17 [.ref 153, .int (nI a), .int (nI t)] [] (h2) ((some (.int r), h')) ∧ fr frH h1 h' ∧ ((v_rec c n K P B a ∧ r = nI 1) ∨ (¬ v_rec c n K P B a ∧ r = nI 0)) := by
      intro k
      induction k with
      | zero =>
        intro t ht al h2 f2
        have e : t = v_sM c n K P B a := ht
        refine ⟨h2, nI 1, ?_, f2, Or.inl ⟨fun j hj qj v w w' hw hw' ev ev' => ?_, rfl⟩⟩
        · refine wb_X12_recalls_17 ?_
          rw [f2.I rfl, z.1, if_neg (nI_nlt (by omega) (by omega))]
        · obtain ⟨t', ht', e1, e2⟩ := v_set_ex s.1 hj qj hw
          have := al t' (by omega)
          rw [e1, e2, ev] at this
          exact this w w' hw hw' ev ev'
      | succ k ih =>
        intro t ht al h2 f2
        have s2 : mS c n K P B h2 := s1.fr f2 rfl
        obtain ⟨h3, x, r3, f3, res⟩ := sp_recallsAt s2 ha (z.fr f2 (fun _ => rfl) (fun _ => rfl) rfl) (t := t) (by omega)
        have f23 := f2.trans f3
        rcases res with ⟨e, y⟩ | ⟨e, y⟩
        · obtain ⟨h', r', rr, f', res'⟩ := ih (t + 1) (by omega) (fun t' ht' => by
            by_cases e : t' = t
            · rw [e]; exact y
            · exact al t' (by omega)) h3 f23
          refine ⟨h', r', ?_, f', res'⟩
          refine wb_X12_recalls_17 ?_
          rw [f2.I rfl, z.1, if_pos (nI_lt (by omega) (by omega))]
          refine (cl_X12_recalls_28 rfl (by decide) (r3)).mpr ?_
          refine wb_X12_recalls_31 ?_
          rw [e, if_neg (by decide), nI_s]
          exact rr
        · refine ⟨h3, nI 0, ?_, f23, Or.inr ⟨fun u => y ?_, rfl⟩⟩
          · refine wb_X12_recalls_17 ?_
            rw [f2.I rfl, z.1, if_pos (nI_lt (by omega) (by omega))]
            refine (cl_X12_recalls_28 rfl (by decide) (r3)).mpr ?_
            refine wb_X12_recalls_31 ?_
            rw [e, if_pos rfl]
          · have si := v_set_is s.1 (p := a) (t := t) (by omega)
            exact u _ si.1 si.2.1 _
    obtain ⟨h', x, rr, f', res⟩ := lp _ 0 (Nat.zero_add _) (fun t' ht' => absurd ht' (Nat.not_lt_zero _)) h1 fr.rfl'
    refine ⟨h', x, ?_, (f.mono rfl).trans (f'.mono rfl), Or.inr (res.elim (fun u => Or.inl ⟨q, u⟩) (fun u => Or.inr ⟨q, u⟩))⟩
    refine wb_X12_recalls_0 ?_
    refine (cl_X12_recalls_1 rfl (by decide) (sp_isPlayer _ _)).mpr ?_
    refine wb_X12_recalls_4 ?_
    rw [b2i_t q, if_neg (by decide)]
    refine (cl_X12_recalls_12 rfl (by decide) (r)).mpr ?_
    refine wb_X12_recalls_15 ?_
    exact rr
  · refine ⟨h, -nI 2, ?_, fr.rfl', Or.inl ⟨q, rfl⟩⟩
    refine wb_X12_recalls_0 ?_
    refine (cl_X12_recalls_1 rfl (by decide) (sp_isPlayer _ _)).mpr ?_
    refine wb_X12_recalls_4 ?_
    rw [b2i_f q, if_pos rfl]
theorem mo_unplan (t : mP np T C h) : ∃ h', XX true 1 203 0 [.ref 153, ax_junk] [] (h) (some (.int (nI np)), h') ∧ fr [(153, some 6)] h h' ∧ mP 0 T C h' := by
  refine ⟨ax_wr h 153 6 (.int (nI 0)), ?_, fr.wr rfl, Nat.zero_le _, wr_I _ _ _ _, fun k hk => absurd hk (Nat.not_lt_zero _)⟩
  refine wb_X12_unplan_0 ?_
  rw [t.2.1]
end S36
