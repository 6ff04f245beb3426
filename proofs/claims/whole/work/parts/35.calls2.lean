/-! THE REFERENCE'S CALLS: the pack, stages put and dropped -/
theorem hI_wr (h : AH) (a j : Nat) (v : Int32) (b k : Nat) : hI (ax_wr h a j (.int v)) b k = if b = a ∧ k = j then v else hI h b k := by
  by_cases q : b = a ∧ k = j
  · rw [if_pos q, q.1, q.2, wr_I]
  · rw [if_neg q, wr_In q]
theorem v_out_congr {K K' : Nat → Nat} : ∀ i, (∀ a, a < i → K a = K' a) → v_out K i = v_out K' i
  | 0, _ => rfl
  | i + 1, h => by
    show v_out K i + (if isCd (K i) then 1 else 0) = v_out K' i + (if isCd (K' i) then 1 else 0)
    rw [v_out_congr i (fun a ha => h a (by omega)), h i (by omega)]
theorem okS.cut {c n m : Nat} {K P B : Nat → Nat} (s : okS c n K P B) (h : m ≤ n) : okS c m K P B := ⟨s.1, s.2.1, by have := s.2.2.1; omega, fun i hi => s.2.2.2 i (by omega)⟩
/-- a stage as it can be -/
def okT (k p b : Nat) : Prop := k < 8 ∧ p < 3 ∧ (hasN k → b = 2 ∨ b = 3) ∧ (¬ hasN k → b = 0)
theorem okS.put {c n : Nat} {K P B : Nat → Nat} (s : okS c n K P B) (hn : n < 6) {k p b : Nat} (o : okT k p b) (hc : isCd k → v_out K n < c) : okS c (n + 1) (updN K n k) (updN P n p) (updN B n b) := by
  refine ⟨s.1, s.2.1, by omega, fun i hi => ?_⟩
  have e : ∀ i, i ≤ n → v_out (updN K n k) i = v_out K i := fun i hi => v_out_congr i (fun a ha => updN_o (by omega))
  rw [e i (by omega)]
  by_cases q : i = n
  · rw [q, updN_s, updN_s, updN_s]
    exact ⟨o.1, o.2.1, o.2.2.1, o.2.2.2, hc⟩
  · rw [updN_o q, updN_o q, updN_o q]
    exact s.2.2.2 i (by omega)
abbrev frA : List (Nat × Option Nat) := [(155, none), (156, none), (157, none), (153, some 2)]
def updZ (f : Nat → Int) (k : Nat) (v : Int) : Nat → Int := fun i => if i = k then v else f i
section S35
variable {c n np nr : Nat} {K P B T C : Nat → Nat} {W : Nat → Int} {h h' : AH}
theorem sp_adds (s : mS c n K P B h) (hn : n < 6) {k p b : Nat} (o : okT k p b) (hc : isCd k → v_out K n < c) : ∃ h', XX true 1 165 0 [.ref 153, .int (nI k), .int (nI p), .int (nI b)] [] (h) (some (.int (nI n)), h') ∧ fr frA h h' ∧ mS c (n + 1) (updN K n k) (updN P n p) (updN B n b) h' := by
  refine ⟨ax_wr (ax_wr (ax_wr (ax_wr h 155 n (.int (nI k))) 156 n (.int (nI p))) 157 n (.int (nI b))) 153 2 (.int (nI (n + 1))), ?_, ?_, s.1.put hn o hc, ?_, ?_, fun i hi => ?_⟩
  · refine wb_X12_adds_0 ?_
    simp only [hI_wr, s.nn, ix_nI (show n < 2 ^ 31 by omega), nI_s]
    simp only [show ¬ (153 = 157 ∧ 2 = n) by omega, show ¬ (153 = 156 ∧ 2 = n) by omega, show ¬ (153 = 155 ∧ 2 = n) by omega, if_false, s.nn, nI_s, and_self, if_true, ix_nI (show n < 2 ^ 31 by omega)]
    rw [show nI 1 = nI (0 + 1) by rfl, nI_subI (by omega), show n + 1 - (0 + 1) = n by omega]
    exact ⟨in_nI hn (by decide), in_nI hn (by decide), in_nI hn (by decide), rfl⟩
  · exact (((fr.wr (by simp [inS])).wr' (by simp [inS])).wr' (by simp [inS])).wr' (by simp [inS])
  · rw [wr_In (by omega), wr_Ia (by decide), wr_Ia (by decide), wr_Ia (by decide), s.cc]
  · rw [wr_I]
  · by_cases q : i = n
    · rw [q, updN_s, updN_s, updN_s]
      refine ⟨?_, ?_, ?_⟩
      · rw [wr_Ia (by decide), wr_Ia (by decide), wr_Ia (by decide), wr_I]
      · rw [wr_Ia (by decide), wr_Ia (by decide), wr_I]
      · rw [wr_Ia (by decide), wr_I]
    · have := s.2.2.2 i (by omega)
      rw [updN_o q, updN_o q, updN_o q]
      refine ⟨?_, ?_, ?_⟩
      · rw [wr_Ia (by decide), wr_Ia (by decide), wr_Ia (by decide), wr_Ij q, this.1]
      · rw [wr_Ia (by decide), wr_Ia (by decide), wr_Ij q, wr_Ia (by decide), this.2.1]
      · rw [wr_Ia (by decide), wr_Ij q, wr_Ia (by decide), wr_Ia (by decide), this.2.2]
theorem sp_isCardLeft (s : mS c n K P B h) {k : Nat} (hk : k < 8) : XX true 3 162 0 [.ref 153, .int (nI k)] [] (h) (some (.int (b2i (isCd k → v_out K n < c))), h) := by
  have h6 := s.n6
  have hc := s.c5
  have ol := v_out_le K n
  refine wb_X12_isCardLeft_0 ?_
  refine (cl_X12_isCardLeft_1 rfl (by decide) (sp_isCardOut hk h)).mpr ?_
  refine wb_X12_isCardLeft_4 ?_
  by_cases q : isCd k
  · rw [b2i_t q, if_neg (by decide), s.nn]
    refine (cl_X12_isCardLeft_12 rfl (by decide) (sp_outAhead s (Nat.le_refl _))).mpr ?_
    refine wb_X12_isCardLeft_15 ?_
    rw [s.cc]
    by_cases z : v_out K n < c
    · rw [if_pos (nI_lt z (by omega)), b2i_t (fun _ => z)]
      refine wk_X12_isCardLeft_22 ?_
      refine wb_X12_isCardLeft_22 ?_
      rfl
    · rw [if_neg (nI_nlt (by omega) (by omega)), b2i_f (fun y => z (y q))]
  · rw [b2i_f q, if_pos rfl, b2i_t (fun y => absurd y q)]
    refine wk_X12_isCardLeft_22 ?_
    refine wb_X12_isCardLeft_22 ?_
    rfl
/-- whether a stage is told rightly -/
abbrev told (k p b : Int32) : Prop := isLe 7 k ∧ (if k = nI 1 ∨ k = nI 6 then p = nI 0 else isPl p) ∧ (if hasN (ix k) then nI 2 ≤ b ∧ b ≤ nI 3 else b = nI 0)
theorem told.ex {k p b : Int32} (t : told k p b) : ∃ k' p' b', k = nI k' ∧ p = nI p' ∧ b = nI b' ∧ okT k' p' b' := by
  obtain ⟨t1, t2, t3⟩ := t
  obtain ⟨k', hk, rfl⟩ := t1.ex (by decide)
  rw [ix_nI (by omega)] at t3
  have e2 : ∃ p', p = nI p' ∧ p' < 3 := by
    by_cases q : nI k' = nI 1 ∨ nI k' = nI 6
    · rw [if_pos q] at t2
      exact ⟨0, t2, by decide⟩
    · rw [if_neg q] at t2
      obtain ⟨p', hp, e⟩ := t2.ex
      exact ⟨p', e, hp⟩
  obtain ⟨p', rfl, hp⟩ := e2
  by_cases q : hasN k'
  · rw [if_pos q] at t3
    have z : nI 0 ≤ b := Int32.le_trans (by decide) t3.1
    obtain ⟨b', hb, rfl⟩ := nI_of3 (by decide) z t3.2
    have := (nI_leI (by omega) (by omega)).mp t3.1
    exact ⟨k', p', b', rfl, rfl, rfl, by omega, hp, fun _ => by omega, fun y => absurd q y⟩
  · rw [if_neg q] at t3
    exact ⟨k', p', 0, rfl, rfl, t3, by omega, hp, fun y => absurd y q, fun _ => rfl⟩
theorem sp_isToldRight (k p b : Int32) (h : AH) : XX true 3 158 0 [.ref 153, .int (k), .int (p), .int (b), ax_junk] [] (h) (some (.int (b2i (told k p b))), h) := by
  have go : ∀ Q : Prop, ∀ _ : Decidable Q, (Q ↔ (if k = nI 1 ∨ k = nI 6 then p = nI 0 else isPl p)) → XX true 3 158 27 [ax_junk, .int (k), ax_junk, .int (b), ax_junk] [.int (b2i Q)] (h) ((some (.int (b2i (told k p b))), h)) := by
    intro Q _ hQ
    have y : told k p b → XX true 3 158 74 [ax_junk, ax_junk, ax_junk, ax_junk, ax_junk] [] (h) ((some (.int (b2i (told k p b))), h)) := by
      intro z
      rw [b2i_t z]
      refine wb_X12_isToldRight_74 ?_
      rfl
    refine wb_X12_isToldRight_27 ?_
    refine (cl_X12_isToldRight_35 rfl (by decide) (sp_in _ _ _ _)).mpr ?_
    refine wb_X12_isToldRight_38 ?_
    rw [lN_nI (by decide : 0 < 2 ^ 31), lN_nI (by decide : 7 < 2 ^ 31), b2i_cong (and_congr (toI64_le _ _) (toI64_le _ _))]
    by_cases q : isLe 7 k
    · rw [b2i_t q, if_neg (by decide)]
      by_cases q2 : Q
      · rw [b2i_t q2, if_neg (by decide)]
        obtain ⟨k', hk, e⟩ := q.ex (by decide)
        have ek : ix k = k' := by rw [e, ix_nI (by omega)]
        refine (cl_X12_isToldRight_47 rfl (by decide) ((show XX true 2 160 0 [.int k] [] h (some (.int (b2i (hasN k'))), h) by rw [e]; exact sp_hasNumber (by omega) h))).mpr ?_
        refine wb_X12_isToldRight_50 ?_
        by_cases q3 : hasN k'
        · rw [b2i_t q3, if_neg (by decide)]
          refine (cl_X12_isToldRight_61 rfl (by decide) (sp_in _ _ _ _)).mpr ?_
          refine wb_X12_isToldRight_64 ?_
          rw [lN_nI (by decide : 2 < 2 ^ 31), lN_nI (by decide : 3 < 2 ^ 31), b2i_cong (and_congr (toI64_le _ _) (toI64_le _ _))]
          by_cases q4 : nI 2 ≤ b ∧ b ≤ nI 3
          · rw [b2i_t q4, if_neg (by decide)]
            exact y ⟨q, hQ.mp q2, by rw [ek, if_pos q3]; exact q4⟩
          · rw [b2i_f q4, if_pos rfl, b2i_f (fun z => q4 (by have := z.2.2; rw [ek, if_pos q3] at this; exact this))]
        · rw [b2i_f q3, if_pos rfl]
          by_cases q4 : b = nI 0
          · rw [if_pos q4]
            exact wk_X12_isToldRight_74 (y ⟨q, hQ.mp q2, by rw [ek, if_neg q3]; exact q4⟩)
          · rw [if_neg q4, b2i_f (fun z => q4 (by have := z.2.2; rw [ek, if_neg q3] at this; exact this))]
      · rw [b2i_f q2, if_pos rfl, b2i_f (fun z => q2 (hQ.mpr z.2.1))]
    · rw [b2i_f q, if_pos rfl, b2i_f (fun z => q z.1)]
  have g11 : k = nI 1 ∨ k = nI 6 → XX true 3 158 11 [ax_junk, .int (k), .int (p), .int (b), ax_junk] [] (h) ((some (.int (b2i (told k p b))), h)) := by
    intro q
    have g := go (p = nI 0) inferInstance (by rw [if_pos q])
    refine wb_X12_isToldRight_11 ?_
    by_cases z : p = nI 0
    · rw [if_pos z]
      rw [b2i_t z] at g
      exact wk_X12_isToldRight_27 g
    · rw [if_neg z]
      rw [b2i_f z] at g
      exact wk_X12_isToldRight_27 g
  refine wb_X12_isToldRight_0 ?_
  by_cases k1 : k = nI 1
  · rw [if_pos k1]
    exact g11 (Or.inl k1)
  · rw [if_neg k1]
    by_cases k6 : k = nI 6
    · rw [if_pos k6]
      exact g11 (Or.inr k6)
    · rw [if_neg k6]
      refine (cl_X12_isToldRight_24 rfl (by decide) (sp_isPlayer p h)).mpr ?_
      exact wk_X12_isToldRight_27 (go _ _ (by rw [if_neg (fun z => z.elim k1 k6)]))
def a_stage (c n : Nat) (K : Nat → Nat) (k p b : Int32) : Int32 := if told k p b then (if n = 6 then -nI 4 else if isCd (ix k) → v_out K n < c then nI n else -nI 3) else -nI 2
abbrev puts (c n : Nat) (K : Nat → Nat) (k p b : Int32) : Prop := told k p b ∧ n ≠ 6 ∧ (isCd (ix k) → v_out K n < c)
theorem mo_stage (s : mS c n K P B h) (k p b : Int32) : (puts c n K k p b → ∃ h', XX true 4 157 0 [.ref 153, .int (k), .int (p), .int (b)] [] (h) (some (.int (a_stage c n K k p b)), h') ∧ fr frA h h' ∧ mS c (n + 1) (updN K n (ix k)) (updN P n (ix p)) (updN B n (ix b)) h') ∧ (¬ puts c n K k p b → XX true 4 157 0 [.ref 153, .int (k), .int (p), .int (b)] [] (h) (some (.int (a_stage c n K k p b)), h)) := by
  have h6 := s.n6
  unfold a_stage
  constructor
  · rintro ⟨t, n6, cl⟩
    obtain ⟨k', p', b', rfl, rfl, rfl, o⟩ := t.ex
    have hb : b' < 2 ^ 31 := by
      by_cases z : hasN k'
      · have := o.2.2.1 z; omega
      · have := o.2.2.2 z; omega
    have hk := o.1
    have hp := o.2.1
    have ek : ix (nI k') = k' := ix_nI (by omega)
    have ep : ix (nI p') = p' := ix_nI (by omega)
    have eb : ix (nI b') = b' := ix_nI hb
    rw [ek] at cl
    obtain ⟨h', r, f, m⟩ := sp_adds s (by omega) o cl
    simp only [ek, ep, eb]
    refine ⟨h', ?_, f, m⟩
    refine wb_X12_stage_0 ?_
    refine (cl_X12_stage_4 rfl (by decide) (sp_isToldRight _ _ _ _)).mpr ?_
    refine wb_X12_stage_7 ?_
    rw [b2i_t t, if_neg (by decide), s.nn, if_neg (fun z => n6 ((nI_eq (by omega) (by omega)).mp z))]
    refine (cl_X12_stage_31 rfl (by decide) (sp_isCardLeft s hk)).mpr ?_
    refine wb_X12_stage_34 ?_
    rw [b2i_t cl, if_neg (by decide)]
    refine (cl_X12_stage_41 rfl (by decide) (r)).mpr ?_
    refine wb_X12_stage_44 ?_
    rw [if_pos t, if_neg n6, if_pos cl]
  · intro q
    refine wb_X12_stage_0 ?_
    refine (cl_X12_stage_4 rfl (by decide) (sp_isToldRight _ _ _ _)).mpr ?_
    refine wb_X12_stage_7 ?_
    by_cases t : told k p b
    · rw [b2i_t t, if_neg (by decide), if_pos t, s.nn]
      by_cases n6 : n = 6
      · rw [if_pos (congrArg nI n6), if_pos n6]
      · rw [if_neg (fun z => n6 ((nI_eq (by omega) (by omega)).mp z)), if_neg n6]
        obtain ⟨k', p', b', rfl, rfl, rfl, o⟩ := t.ex
        have hk := o.1
        have ek : ix (nI k') = k' := ix_nI (by omega)
        have nq : ¬ (isCd k' → v_out K n < c) := fun z => q ⟨t, n6, by rw [ek]; exact z⟩
        simp only [ek]
        refine (cl_X12_stage_31 rfl (by decide) (sp_isCardLeft s hk)).mpr ?_
        refine wb_X12_stage_34 ?_
        rw [b2i_f nq, if_pos rfl, if_neg nq]
    · rw [b2i_f t, if_pos rfl, if_neg t]
def a_drop (n : Nat) : Int32 := if n = 0 then -nI 3 else nI (n - 1)
theorem mo_drop (s : mS c n K P B h) : ∃ h', XX true 1 171 0 [.ref 153] [] (h) (some (.int (a_drop n)), h') ∧ fr [(153, some 2)] h h' ∧ mS c (n - 1) K P B h' := by
  have h6 := s.n6
  unfold a_drop
  by_cases q : n = 0
  · subst q
    refine ⟨h, ?_, fr.rfl', s⟩
    refine wb_X12_drop_0 ?_
    rw [s.nn, if_pos rfl, if_pos rfl]
  · refine ⟨ax_wr h 153 2 (.int (nI (n - 1))), ?_, fr.wr rfl, s.1.cut (by omega), ?_, wr_I _ _ _ _, fun i hi => ?_⟩
    · refine wb_X12_drop_0 ?_
      rw [s.nn, if_neg (nI_z (by omega) (by omega)), if_neg q, show nI 1 = nI (0 + 1) by rfl, nI_subI (by omega), wr_I]
    · rw [wr_In (by omega), s.cc]
    · rw [wr_Ia (by decide), wr_Ia (by decide), wr_Ia (by decide)]
      exact s.2.2.2 i (by omega)
def a_pack (c : Nat) (m : Int32) : Int32 := if nI 1 ≤ m ∧ m ≤ nI 5 then nI c else -nI 2
theorem mo_pack (s : mS c n K P B h) (m : Int32) : (nI 1 ≤ m ∧ m ≤ nI 5 → ∃ h', XX true 2 154 0 [.ref 153, .int (m), ax_junk, ax_junk] [] (h) (some (.int (a_pack c m)), h') ∧ fr [(153, some 0), (154, none), (153, some 2), (153, some 6), (153, some 8), (153, some 10)] h h' ∧ mS (ix m) 0 K P B h' ∧ mW (fun _ => 0) h' ∧ hI h' 153 6 = nI 0 ∧ hI h' 153 8 = nI 0 ∧ hL h' 153 10 = lN 1) ∧ (¬ (nI 1 ≤ m ∧ m ≤ nI 5) → XX true 2 154 0 [.ref 153, .int (m), ax_junk, ax_junk] [] (h) (some (.int (a_pack c m)), h)) := by
  unfold a_pack
  have pre : ∀ R, (¬ (nI 1 ≤ m ∧ m ≤ nI 5) → R = (some (.int (-nI 2)), h)) → (nI 1 ≤ m ∧ m ≤ nI 5 → XX true 2 154 27 [.ref 153, ax_junk, .int (nI c), .int (nI 0)] [] (ax_wr h 153 0 (.int m)) (R)) → XX true 2 154 0 [.ref 153, .int m, ax_junk, ax_junk] [] h R := by
    intro R u u2
    refine wb_X12_pack_0 ?_
    refine (cl_X12_pack_6 rfl (by decide) (sp_in _ _ _ _)).mpr ?_
    refine wb_X12_pack_9 ?_
    rw [lN_nI (by decide : 1 < 2 ^ 31), lN_nI (by decide : 5 < 2 ^ 31), b2i_cong (and_congr (toI64_le _ _) (toI64_le _ _)), s.cc]
    by_cases q : nI 1 ≤ m ∧ m ≤ nI 5
    · rw [b2i_t q, if_neg (by decide)]
      exact wk_X12_pack_27 (u2 q)
    · rw [b2i_f q, if_pos rfl]
      exact u q
  constructor
  · intro q
    obtain ⟨m', hm, rfl⟩ := nI_of3 (by decide) (Int32.le_trans (by decide) q.1) q.2
    have m1 := (nI_leI (by omega) (by omega)).mp q.1
    rw [ix_nI (by omega)]
    have lp : ∀ k i, i + k = 5 → ∀ h1, fr [(154, none)] (ax_wr h 153 0 (.int (nI m'))) h1 → (∀ a, a < i → hI h1 154 a = nI 0) → ∃ h', XX true 2 154 27 [.ref 153, ax_junk, .int (nI c), .int (nI i)] [] (h1) ((some (.int (nI c)), h')) ∧ fr [(153, some 0), (154, none), (153, some 2), (153, some 6), (153, some 8), (153, some 10)] h h' ∧ mS m' 0 K P B h' ∧ mW (fun _ => 0) h' ∧ hI h' 153 6 = nI 0 ∧ hI h' 153 8 = nI 0 ∧ hL h' 153 10 = lN 1 := by
      intro k
      induction k with
      | zero =>
        intro i hi h1 f lo
        obtain rfl : i = 5 := hi
        refine ⟨ax_wr (ax_wr (ax_wr (ax_wr h1 153 2 (.int (nI 0))) 153 6 (.int (nI 0))) 153 8 (.int (nI 0))) 153 10 (.long (lN 1)), ?_, ?_, ⟨⟨m1, hm, by decide, fun i hi => absurd hi (Nat.not_lt_zero _)⟩, ?_, ?_, fun i hi => absurd hi (Nat.not_lt_zero _)⟩, fun i hi => ⟨?_, by show (-9 : Int) ≤ 0; decide, by show (0 : Int) ≤ 9; decide⟩, ?_, ?_, ?_⟩
        · refine wb_X12_pack_27 ?_
          rw [if_neg (by decide)]
        · exact (((((fr.wr (by simp [inS])).trans (f.mono rfl)).wr' (by simp [inS])).wr' (by simp [inS])).wr' (by simp [inS])).wr' (by simp [inS])
        · rw [wr_Ij (by decide), wr_Ij (by decide), wr_Ij (by decide), wr_Ij (by decide), f.I rfl, wr_I]
        · rw [wr_Ij (by decide), wr_Ij (by decide), wr_Ij (by decide), wr_I]
        · rw [wr_Ia (by decide), wr_Ia (by decide), wr_Ia (by decide), wr_Ia (by decide), lo i hi]
          rfl
        · rw [wr_Ij (by decide), wr_Ij (by decide), wr_I]
        · rw [wr_Ij (by decide), wr_I]
        · rw [wr_L]
      | succ k ih =>
        intro i hi h1 f lo
        obtain ⟨h', r, x⟩ := ih (i + 1) (by omega) (ax_wr h1 154 i (.int (nI 0))) (f.wr' (by simp [inS])) (fun a ha => by
          by_cases e : a = i
          · rw [e, wr_I]
          · rw [wr_Ij e]
            exact lo a (by omega))
        refine ⟨h', ?_, x⟩
        refine wb_X12_pack_27 ?_
        rw [if_pos (nI_lt (by omega) (by omega)), ix_nI (by omega), nI_s]
        exact ⟨in_nI (by omega) (by decide), wk_X12_pack_27 r⟩
    obtain ⟨h', r, x⟩ := lp 5 0 rfl _ fr.rfl' (fun a ha => absurd ha (Nat.not_lt_zero _))
    refine ⟨h', pre _ (fun z => absurd q z) (fun _ => ?_), x⟩
    rw [if_pos q]
    exact r
  · intro q
    exact pre _ (fun _ => by rw [if_neg q]) (fun z => absurd z q)
def a_worth (c : Nat) (W : Nat → Int) (i v : Int32) : Int32 := if isLt c i ∧ -nI 9 ≤ v ∧ v ≤ nI 9 then iI (W (ix i)) else -nI 2
theorem mo_worth (s : mS c n K P B h) (w : mW W h) (i v : Int32) : (isLt c i ∧ -nI 9 ≤ v ∧ v ≤ nI 9 → ∃ h', XX true 2 156 0 [.ref 153, .int (i), .int (v), ax_junk] [] (h) (some (.int (a_worth c W i v)), h') ∧ fr [(154, none)] h h' ∧ mW (updZ W (ix i) v.toInt) h') ∧ (¬ (isLt c i ∧ -nI 9 ≤ v ∧ v ≤ nI 9) → XX true 2 156 0 [.ref 153, .int (i), .int (v), ax_junk] [] (h) (some (.int (a_worth c W i v)), h)) := by
  have hc := s.c5
  unfold a_worth
  have n9 : -lN 9 = (-nI 9 : Int32).toInt64 := by decide
  constructor
  · intro q
    obtain ⟨k, hk, rfl⟩ := q.1.ex (by omega)
    rw [ix_nI (by omega)]
    have v9 : -9 ≤ v.toInt ∧ v.toInt ≤ 9 := by
      have a := Int32.le_iff_toInt_le.mp q.2.1
      have b := Int32.le_iff_toInt_le.mp q.2.2
      rw [show (-nI 9 : Int32).toInt = -9 by decide] at a
      rw [show (nI 9 : Int32).toInt = 9 by decide] at b
      exact ⟨a, b⟩
    refine ⟨ax_wr h 154 k (.int v), ?_, fr.wr (by simp [inS]), fun a ha => ?_⟩
    · refine wb_X12_worth_0 ?_
      rw [s.cc]
      refine (cl_X12_worth_10 rfl (by decide) (sp_in _ _ _ _)).mpr ?_
      refine wb_X12_worth_13 ?_
      rw [b2i_cong (in_pred (by omega) _), b2i_t q.1, if_neg (by decide)]
      refine (cl_X12_worth_24 rfl (by decide) (sp_in _ _ _ _)).mpr ?_
      refine wb_X12_worth_27 ?_
      rw [n9, lN_nI (by decide : 9 < 2 ^ 31), b2i_cong (and_congr (toI64_le _ _) (toI64_le _ _)), b2i_t q.2, if_neg (by decide), if_pos q, ix_nI (by omega), (w k (by omega)).1]
      exact ⟨in_nI (by omega) (by decide), in_nI (by omega) (by decide), rfl⟩
    · by_cases e : a = k
      · rw [e, wr_I]
        unfold updZ
        rw [if_pos rfl]
        exact ⟨(Int32.ofInt_toInt v).symm, v9⟩
      · rw [wr_Ij e]
        unfold updZ
        rw [if_neg e]
        exact w a ha
  · intro q
    refine wb_X12_worth_0 ?_
    rw [s.cc]
    refine (cl_X12_worth_10 rfl (by decide) (sp_in _ _ _ _)).mpr ?_
    refine wb_X12_worth_13 ?_
    rw [b2i_cong (in_pred (by omega) _), if_neg q]
    by_cases q1 : isLt c i
    · rw [b2i_t q1, if_neg (by decide)]
      refine (cl_X12_worth_24 rfl (by decide) (sp_in _ _ _ _)).mpr ?_
      refine wb_X12_worth_27 ?_
      rw [n9, lN_nI (by decide : 9 < 2 ^ 31), b2i_cong (and_congr (toI64_le _ _) (toI64_le _ _)), b2i_f (fun z => q ⟨q1, z⟩), if_pos rfl]
    · rw [b2i_f q1, if_pos rfl]
end S35
