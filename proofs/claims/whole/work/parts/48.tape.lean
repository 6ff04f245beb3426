/-! THE REFERENCE'S CALLS: feed, racks, count -/
/-- the k-th byte of a number, from the top -/
def v_by (x : Int32) (k : Nat) : Int32 := (x.toUInt32 >>> ((nI 24 - nI 8 * nI k).toUInt32 &&& Int32.toUInt32 31)).toInt32 &&& nI 255
/-- the tape -/
def mTp (tn : Nat) (tb : Nat → Int32) (h : AH) : Prop := tn ≤ 120 ∧ hI h 153 25 = nI tn ∧ ∀ i, i < tn → hI h 169 i = tb i
theorem mTp.fr {tn : Nat} {tb : Nat → Int32} {h h' : AH} (s : mTp tn tb h) {L : List (Nat × Option Nat)} (f : fr L h h') (q : ∀ j, inS L 169 j = false) (q2 : inS L 153 25 = false) : mTp tn tb h' := ⟨s.1, (f.I q2).trans s.2.1, fun i hi => (f.I (q i)).trans (s.2.2 i hi)⟩
def v_fed (tb : Nat → Int32) (tn : Nat) (x : Int32) : Nat → Int32 := fun i => if i < tn then tb i else v_by x (i - tn)
abbrev feedOk (tn : Nat) (n : Int32) : Prop := (nI 1 ≤ n ∧ n ≤ nI 4) ∧ tn + ix n ≤ 120
def a_feed (tn : Nat) (n : Int32) : Int32 := if nI 1 ≤ n ∧ n ≤ nI 4 then (if tn + ix n ≤ 120 then nI (tn + ix n) else -nI 4) else -nI 2
/-- a rack: 9 none, else how long -/
abbrev rkW (x : Nat) : Int32 := if x = 9 then -nI 9 else nI x
def mRk (rl : Nat → Nat) (rF rK rP rB : Nat → Nat → Nat) (h : AH) : Prop := ∀ r, r < 2 → (rl r = 9 ∨ rl r ≤ 6) ∧ hI h 171 r = rkW (rl r) ∧ ∀ i, i < 6 → hI h 172 (24 * r + 4 * i) = nI (rF r i) ∧ rF r i < 2 ∧ (rF r i = 1 → okT (rK r i) (rP r i) (rB r i) ∧ hI h 172 (24 * r + 4 * i + 1) = nI (rK r i) ∧ hI h 172 (24 * r + 4 * i + 2) = nI (rP r i) ∧ hI h 172 (24 * r + 4 * i + 3) = nI (rB r i))
abbrev frK : List (Nat × Option Nat) := [(171, none), (172, none)]
theorem mRk.fr {rl : Nat → Nat} {rF rK rP rB : Nat → Nat → Nat} {h h' : AH} (s : mRk rl rF rK rP rB h) {L : List (Nat × Option Nat)} (f : fr L h h') (q : ∀ j, inS L 171 j = false) (q2 : ∀ j, inS L 172 j = false) : mRk rl rF rK rP rB h' := fun r hr => ⟨(s r hr).1, (f.I (q _)).trans (s r hr).2.1, fun i hi => ⟨(f.I (q2 _)).trans ((s r hr).2.2 i hi).1, ((s r hr).2.2 i hi).2.1, fun z => ⟨(((s r hr).2.2 i hi).2.2 z).1, (f.I (q2 _)).trans (((s r hr).2.2 i hi).2.2 z).2.1, (f.I (q2 _)).trans (((s r hr).2.2 i hi).2.2 z).2.2.1, (f.I (q2 _)).trans (((s r hr).2.2 i hi).2.2 z).2.2.2⟩⟩⟩
abbrev rackOk (r n : Int32) : Prop := isLe 1 r ∧ n ≤ nI 6 ∧ (n < nI 0 → n = -nI 9)
def a_rack (r n : Int32) : Int32 := if isLe 1 r ∧ n ≤ nI 6 then (if n < nI 0 ∧ n ≠ -nI 9 then -nI 14 else nI 1) else -nI 2
/-- the number of a rack's length -/
abbrev rkN (n : Int32) : Nat := if n < nI 0 then 9 else ix n
theorem rkW_N {n : Int32} (h1 : n ≤ nI 6) (h2 : n < nI 0 → n = -nI 9) : rkW (rkN n) = n ∧ (rkN n = 9 ∨ rkN n ≤ 6) := by
  unfold rkW rkN
  by_cases q : n < nI 0
  · rw [if_pos q, if_pos rfl]
    exact ⟨(h2 q).symm, Or.inl rfl⟩
  · rw [if_neg q]
    obtain ⟨k, hk, rfl⟩ := nI_of3 (by decide) (Int32.not_lt.mp q) h1
    rw [ix_nI (by omega), if_neg (by omega)]
    exact ⟨rfl, Or.inr hk⟩
abbrev layOk (rl : Nat → Nat) (n : Nat) (r i s : Int32) : Prop := isLe 1 r ∧ isLt n s ∧ rl (ix r) ≠ 9 ∧ isLt (rl (ix r)) i
def a_lay (rl : Nat → Nat) (n : Nat) (r i s : Int32) : Int32 := if isLe 1 r ∧ isLt n s then (if rl (ix r) = 9 then -nI 11 else if isLt (rl (ix r)) i then nI 1 else -nI 12) else -nI 2
/-- how far the stages of a rack are built -/
def v_bld (c : Nat) (F K : Nat → Nat) : Nat → Nat → Nat
  | 0, i => i
  | k + 1, i => if F i = 1 ∧ (isCd (K i) → v_out K i < c) then v_bld c F K k (i + 1) else i
theorem v_bld_le (c : Nat) (F K : Nat → Nat) : ∀ k i, i ≤ v_bld c F K k i ∧ v_bld c F K k i ≤ i + k
  | 0, i => ⟨Nat.le_refl _, Nat.le_refl _⟩
  | k + 1, i => by
    have := v_bld_le c F K k (i + 1)
    unfold v_bld
    split <;> omega
abbrev buildOk (rl : Nat → Nat) (r : Int32) : Prop := isLe 1 r ∧ rl (ix r) ≠ 9
def a_build (c : Nat) (rl : Nat → Nat) (rF rK : Nat → Nat → Nat) (r : Int32) : Int32 := if isLe 1 r then (if rl (ix r) = 9 then -nI 11 else nI (v_bld c (rF (ix r)) (rK (ix r)) (rl (ix r)) 0)) else -nI 2
theorem updN_self {α : Type} (f : Nat → α) (k : Nat) : updN f k (f k) = f := funext fun i => by
  by_cases q : i = k
  · rw [q, updN_s]
  · rw [updN_o q]
section S48
variable {c n np nr tn : Nat} {K P B T C : Nat → Nat} {tb : Nat → Int32} {rl : Nat → Nat} {rF rK rP rB : Nat → Nat → Nat} {h h' : AH}
theorem mo_feed (t : mTp tn tb h) (n x : Int32) : (feedOk tn n → ∃ h', XX true 2 224 0 [.ref 153, .int (n), .int (x), ax_junk] [] (h) (some (.int (a_feed tn n)), h') ∧ fr [(169, none), (153, some 25)] h h' ∧ mTp (tn + ix n) (v_fed tb tn x) h') ∧ (¬ feedOk tn n → XX true 2 224 0 [.ref 153, .int (n), .int (x), ax_junk] [] (h) (some (.int (a_feed tn n)), h)) := by
  have t120 := t.1
  have pre : ∀ R, (¬ (nI 1 ≤ n ∧ n ≤ nI 4) → R = (some (.int (-nI 2)), h)) → ((nI 1 ≤ n ∧ n ≤ nI 4) → ¬ tn + ix n ≤ 120 → R = (some (.int (-nI 4)), h)) → (feedOk tn n → XX true 2 224 31 [.ref 153, .int (n), .int (x), .int (nI 0)] [] (h) (R)) → XX true 2 224 0 [.ref 153, .int (n), .int (x), ax_junk] [] (h) (R) := by
    intro R u1 u2 u3
    refine wb_X12_feed_0 ?_
    refine (cl_X12_feed_6 rfl (by decide) (sp_in _ _ _ _)).mpr ?_
    refine wb_X12_feed_9 ?_
    rw [lN_nI (by decide : 1 < 2 ^ 31), lN_nI (by decide : 4 < 2 ^ 31), b2i_cong (and_congr (toI64_le _ _) (toI64_le _ _))]
    by_cases q : nI 1 ≤ n ∧ n ≤ nI 4
    · rw [b2i_t q, if_neg (by decide)]
      obtain ⟨m', hm, rfl⟩ := nI_of3 (by decide) (Int32.le_trans (by decide) q.1) q.2
      have e : ix (nI m') = m' := ix_nI (by omega)
      rw [e] at u2
      rw [t.2.1, nI_add]
      by_cases q2 : tn + m' ≤ 120
      · rw [if_pos ((nI_leI (by omega) (by omega)).mpr q2)]
        exact u3 ⟨q, by rw [e]; exact q2⟩
      · rw [if_neg (fun z => q2 ((nI_leI (by omega) (by omega)).mp z))]
        exact u2 q q2
    · rw [b2i_f q, if_pos rfl]
      exact u1 q
  constructor
  · intro ok
    have q := ok.1
    have q2 := ok.2
    obtain ⟨m', hm, rfl⟩ := nI_of3 (by decide) (Int32.le_trans (by decide) q.1) q.2
    have e : ix (nI m') = m' := ix_nI (by omega)
    rw [e] at q2 ⊢
    have lp : ∀ k i, i + k = m' → ∀ h1, fr [(169, none), (153, some 25)] h h1 → hI h1 153 25 = nI (tn + i) → (∀ a, a < tn + i → hI h1 169 a = v_fed tb tn x a) → ∃ h', XX true 2 224 31 [.ref 153, .int (nI m'), .int (x), .int (nI i)] [] (h1) ((some (.int (nI (tn + m'))), h')) ∧ fr [(169, none), (153, some 25)] h h' ∧ mTp (tn + m') (v_fed tb tn x) h' := by
      intro k
      induction k with
      | zero =>
        intro i hi h1 f e1 e2
        obtain rfl : i = m' := hi
        refine ⟨h1, ?_, f, q2, e1, e2⟩
        refine wb_X12_feed_31 ?_
        rw [if_neg (nI_nlt (Nat.le_refl _) (by omega)), e1]
      | succ k ih =>
        intro i hi h1 f e1 e2
        obtain ⟨h', r, y⟩ := ih (i + 1) (by omega) (ax_wr (ax_wr h1 169 (tn + i) (.int (v_by x i))) 153 25 (.int (nI (tn + (i + 1))))) ((f.wr' (by simp [inS])).wr' (by simp [inS])) (wr_I _ _ _ _) (fun a ha => by
          rw [wr_Ia (by decide)]
          by_cases z : a = tn + i
          · rw [z, wr_I]
            unfold v_fed
            rw [if_neg (by omega), Nat.add_sub_cancel_left]
          · rw [wr_Ij z]
            exact e2 a (by omega))
        refine ⟨h', ?_, y⟩
        refine wb_X12_feed_31 ?_
        rw [if_pos (nI_lt (by omega) (by omega)), e1, ix_nI (by omega), nI_s]
        refine ⟨in_nI (by omega) (by decide), ?_⟩
        rw [wr_Ia (by decide), e1, nI_s]
        exact r
    obtain ⟨h', r, y⟩ := lp m' 0 (by omega) h fr.rfl' t.2.1 (fun a ha => by
      unfold v_fed
      rw [if_pos (by omega)]
      exact t.2.2 a (by omega))
    refine ⟨h', pre _ (fun z => absurd q z) (fun _ z => absurd q2 (by rw [e] at z; exact z)) (fun _ => ?_), y⟩
    unfold a_feed
    rw [if_pos q, e, if_pos q2]
    exact r
  · intro ok
    unfold a_feed
    exact pre _ (fun z => by rw [if_neg z]) (fun z y => by rw [if_pos z, if_neg y]) (fun z => absurd z ok)
theorem sp_isRack (p : Int32) (h : AH) : XX true 2 233 0 [.int (p)] [] (h) (some (.int (b2i (isLe 1 p))), h) := by
  refine wb_X12_isRack_0 ?_
  refine (cl_X12_isRack_4 rfl (by decide) (sp_in _ _ _ _)).mpr ?_
  refine wb_X12_isRack_7 ?_
  refine ⟨b2i_01 _, ?_⟩
  rw [b2i_cong (isLe_l (by decide) p)]
theorem mo_rack (m : mRk rl rF rK rP rB h) (r n : Int32) : (rackOk r n → ∃ h', XX true 3 232 0 [.ref 153, .int (r), .int (n), ax_junk] [] (h) (some (.int (a_rack r n)), h') ∧ fr frK h h' ∧ mRk (updN rl (ix r) (rkN n)) (updN rF (ix r) (fun _ => 0)) rK rP rB h') ∧ (¬ rackOk r n → XX true 3 232 0 [.ref 153, .int (r), .int (n), ax_junk] [] (h) (some (.int (a_rack r n)), h)) := by
  have pre : ∀ R, (¬ (isLe 1 r ∧ n ≤ nI 6) → R = (some (.int (-nI 2)), h)) → (isLe 1 r ∧ n ≤ nI 6 → n < nI 0 ∧ n ≠ -nI 9 → R = (some (.int (-nI 14)), h)) → (rackOk r n → XX true 3 232 29 [.ref 153, .int (r), .int (n), ax_junk] [] (h) (R)) → XX true 3 232 0 [.ref 153, .int (r), .int (n), ax_junk] [] (h) (R) := by
    intro R u1 u2 u3
    refine wb_X12_rack_0 ?_
    refine (cl_X12_rack_1 rfl (by decide) (sp_isRack _ _)).mpr ?_
    refine wb_X12_rack_4 ?_
    by_cases q : isLe 1 r
    · rw [b2i_t q, if_neg (by decide)]
      by_cases q2 : n ≤ nI 6
      · rw [if_pos q2]
        by_cases q3 : n < nI 0
        · rw [if_pos q3]
          by_cases q4 : n = -nI 9
          · rw [if_pos q4]
            exact u3 ⟨q, q2, fun _ => q4⟩
          · rw [if_neg q4]
            exact u2 ⟨q, q2⟩ ⟨q3, q4⟩
        · rw [if_neg q3]
          exact u3 ⟨q, q2, fun z => absurd z q3⟩
      · rw [if_neg q2]
        exact u1 (fun z => q2 z.2)
    · rw [b2i_f q, if_pos rfl]
      exact u1 (fun z => q z.1)
  constructor
  · intro ok
    have eA : a_rack r n = nI 1 := by
      unfold a_rack
      rw [if_pos ⟨ok.1, ok.2.1⟩, if_neg (fun z => z.2 (ok.2.2 z.1))]
    obtain ⟨eW, eN⟩ := rkW_N ok.2.1 ok.2.2
    obtain ⟨r', hr, rfl⟩ := ok.1.ex (by decide)
    have er : ix (nI r') = r' := ix_nI (by omega)
    rw [er]
    have lp : ∀ k i, i + k = 24 → ∀ h1, fr frK h h1 → (∀ a, a < 2 → hI h1 171 a = rkW (updN rl r' (rkN n) a)) → (∀ a j, a < 2 → a ≠ r' → j < 24 → hI h1 172 (24 * a + j) = hI h 172 (24 * a + j)) → (∀ j, j < i → hI h1 172 (24 * r' + j) = nI 0) → ∃ h', XX true 3 232 38 [.ref 153, .int (nI r'), ax_junk, .int (nI i)] [] (h1) ((some (.int (nI 1)), h')) ∧ fr frK h h' ∧ mRk (updN rl r' (rkN n)) (updN rF r' (fun _ => 0)) rK rP rB h' := by
      intro k
      induction k with
      | zero =>
        intro i hi h1 f e1 e2 e3
        obtain rfl : i = 24 := hi
        refine ⟨h1, ?_, f, fun a ha => ⟨?_, e1 a ha, fun i hi => ?_⟩⟩
        · refine wb_X12_rack_38 ?_
          rw [if_neg (by decide)]
        · by_cases z : a = r'
          · rw [z, updN_s]; exact eN
          · rw [updN_o z]; exact (m a ha).1
        · by_cases z : a = r'
          · rw [z, updN_s]
            exact ⟨e3 _ (by omega), by decide, fun y => absurd y (by decide)⟩
          · rw [updN_o z]
            have g := (m a ha).2.2 i hi
            refine ⟨(e2 a _ ha z (by omega)).trans g.1, g.2.1, fun y => ⟨(g.2.2 y).1, ?_, ?_, ?_⟩⟩
            · rw [Nat.add_assoc, e2 a _ ha z (by omega), ← Nat.add_assoc]; exact (g.2.2 y).2.1
            · rw [Nat.add_assoc, e2 a _ ha z (by omega), ← Nat.add_assoc]; exact (g.2.2 y).2.2.1
            · rw [Nat.add_assoc, e2 a _ ha z (by omega), ← Nat.add_assoc]; exact (g.2.2 y).2.2.2
      | succ k ih =>
        intro i hi h1 f e1 e2 e3
        obtain ⟨h', x, y⟩ := ih (i + 1) (by omega) (ax_wr h1 172 (24 * r' + i) (.int (nI 0))) (f.wr' (by simp [inS])) (fun a ha => by rw [wr_Ia (by decide)]; exact e1 a ha) (fun a j ha z hj => by rw [wr_Ij (by omega)]; exact e2 a j ha z hj) (fun j hj => by
          by_cases z : j = i
          · rw [z, wr_I]
          · rw [wr_Ij (by omega)]; exact e3 j (by omega))
        refine ⟨h', ?_, y⟩
        refine wb_X12_rack_38 ?_
        rw [if_pos (nI_lt (by omega) (by omega)), nI_mulI, nI_add, ix_nI (by omega), nI_s]
        exact ⟨in_nI (by omega) (by decide), x⟩
    obtain ⟨h', x, y⟩ := lp 24 0 rfl (ax_wr h 171 r' (.int n)) (fr.wr (by simp [inS])) (fun a ha => by
      by_cases z : a = r'
      · rw [z, wr_I, updN_s, eW]
      · rw [wr_Ij z, updN_o z]; exact (m a ha).2.1) (fun a j ha z hj => wr_Ia (by decide)) (fun j hj => absurd hj (Nat.not_lt_zero _))
    refine ⟨h', pre _ (fun z => absurd ⟨ok.1, ok.2.1⟩ z) (fun _ z => absurd (ok.2.2 z.1) z.2) (fun _ => ?_), y⟩
    rw [eA]
    refine wb_X12_rack_29 ?_
    rw [er]
    exact ⟨in_nI (by omega) (by decide), wk_X12_rack_38 x⟩
  · intro ok
    unfold a_rack
    exact pre _ (fun z => by rw [if_neg z]) (fun z y => by rw [if_pos z, if_pos y]) (fun z => absurd z ok)
theorem mo_lay (s : mS c n K P B h) (m : mRk rl rF rK rP rB h) (r i t : Int32) : (layOk rl n r i t → ∃ h', XX true 3 234 0 [.ref 153, .int (r), .int (i), .int (t), ax_junk] [] (h) (some (.int (a_lay rl n r i t)), h') ∧ fr frK h h' ∧ mRk rl (updN rF (ix r) (updN (rF (ix r)) (ix i) 1)) (updN rK (ix r) (updN (rK (ix r)) (ix i) (K (ix t)))) (updN rP (ix r) (updN (rP (ix r)) (ix i) (P (ix t)))) (updN rB (ix r) (updN (rB (ix r)) (ix i) (B (ix t)))) h') ∧ (¬ layOk rl n r i t → XX true 3 234 0 [.ref 153, .int (r), .int (i), .int (t), ax_junk] [] (h) (some (.int (a_lay rl n r i t)), h)) := by
  have h6 := s.n6
  have pre : ∀ R, (¬ (isLe 1 r ∧ isLt n t) → R = (some (.int (-nI 2)), h)) → (isLe 1 r ∧ isLt n t → rl (ix r) = 9 → R = (some (.int (-nI 11)), h)) → (isLe 1 r ∧ isLt n t → rl (ix r) ≠ 9 → ¬ isLt (rl (ix r)) i → R = (some (.int (-nI 12)), h)) → (layOk rl n r i t → XX true 3 234 47 [.ref 153, .int (r), .int (i), .int (t), ax_junk] [.int (nI 1)] (h) (R)) → XX true 3 234 0 [.ref 153, .int (r), .int (i), .int (t), ax_junk] [] (h) (R) := by
    intro R u1 u2 u3 u4
    refine wb_X12_lay_0 ?_
    refine (cl_X12_lay_1 rfl (by decide) (sp_isRack _ _)).mpr ?_
    refine wb_X12_lay_4 ?_
    by_cases q : isLe 1 r
    · rw [b2i_t q, if_neg (by decide)]
      refine (cl_X12_lay_9 rfl (by decide) (sp_isStage s _)).mpr ?_
      refine wb_X12_lay_12 ?_
      by_cases q2 : isLt n t
      · rw [b2i_t q2, if_neg (by decide)]
        obtain ⟨r', hr, rfl⟩ := q.ex (by decide)
        have er : ix (nI r') = r' := ix_nI (by omega)
        rw [er] at u2 u3 ⊢
        have mr := m r' (by omega)
        have w9 : ∀ x, x = 9 ∨ x ≤ 6 → (rkW x = -nI 9 ↔ x = 9) := by
          intro x hx
          rcases hx with rfl | hx
          · decide
          · revert x
            decide
        rw [mr.2.1]
        refine ⟨in_nI (by omega) (by decide), ?_⟩
        by_cases q3 : rl r' = 9
        · rw [if_pos ((w9 _ mr.1).mpr q3)]
          exact u2 ⟨q, q2⟩ q3
        · rw [if_neg (fun z => q3 ((w9 _ mr.1).mp z))]
          have := mr.1.resolve_left q3
          refine ⟨in_nI (by omega) (by decide), ?_⟩
          rw [show rkW (rl r') = nI (rl r') from if_neg q3]
          refine (cl_X12_lay_44 rfl (by decide) (sp_in _ _ _ _)).mpr ?_
          rw [b2i_cong (in_pred (by omega) i)]
          by_cases q4 : isLt (rl r') i
          · rw [b2i_t q4]
            exact u4 ⟨q, q2, by rw [er]; exact q3, by rw [er]; exact q4⟩
          · refine wb_X12_lay_47 ?_
            rw [b2i_f q4, if_pos rfl]
            exact u3 ⟨q, q2⟩ q3 q4
      · rw [b2i_f q2, if_pos rfl]
        exact u1 (fun z => q2 z.2)
    · rw [b2i_f q, if_pos rfl]
      exact u1 (fun z => q z.1)
  constructor
  · intro ok
    have eA : a_lay rl n r i t = nI 1 := by
      unfold a_lay
      rw [if_pos ⟨ok.1, ok.2.1⟩, if_neg ok.2.2.1, if_pos ok.2.2.2]
    rw [eA]
    obtain ⟨q1, q2, q3, q4⟩ := id ok
    obtain ⟨r', hr, rfl⟩ := q1.ex (by decide)
    have er : ix (nI r') = r' := ix_nI (by omega)
    rw [er] at q3 q4 ⊢
    have mr := m r' (by omega)
    have := mr.1.resolve_left q3
    obtain ⟨a, ha, rfl⟩ := q4.ex (by omega)
    obtain ⟨b, hb, rfl⟩ := q2.ex (by omega)
    have ea : ix (nI a) = a := ix_nI (by omega)
    have eb : ix (nI b) = b := ix_nI (by omega)
    rw [ea, eb]
    refine ⟨ax_wr (ax_wr (ax_wr (ax_wr h 172 (24 * r' + 4 * a) (.int (nI 1))) 172 (24 * r' + 4 * a + 1) (.int (nI (K b)))) 172 (24 * r' + 4 * a + 2) (.int (nI (P b)))) 172 (24 * r' + 4 * a + 3) (.int (nI (B b))), pre _ (fun z => absurd ⟨q1, q2⟩ z) (fun _ z => absurd (by rw [er] at z; exact z) q3) (fun _ _ z => absurd (by rw [er]; exact q4) z) (fun _ => ?_), ?_, fun x hx => ⟨(m x hx).1, ?_, fun j hj => ?_⟩⟩
    · refine wb_X12_lay_47 ?_
      rw [if_neg (by decide), nI_mulI, nI_add, nI_mulI, nI_add, nI_add, nI_add, show 4 * (6 * r' + a) = 24 * r' + 4 * a by omega, ix_nI (by omega), ix_nI (by omega), ix_nI (by omega), ix_nI (by omega), ix_nI (by omega)]
      refine ⟨in_nI (by omega) (by decide), in_nI (by omega) (by decide), in_nI (by omega) (by decide), in_nI (by omega) (by decide), in_nI (by omega) (by decide), in_nI (by omega) (by decide), in_nI (by omega) (by decide), ?_⟩
      simp only [hI_wr, show ¬ (155 = 172) by decide, show ¬ (156 = 172) by decide, show ¬ (157 = 172) by decide, false_and, if_false]
      rw [s.KK hb, s.PP hb, s.BB hb]
    · exact (((fr.wr (by simp [inS])).wr' (by simp [inS])).wr' (by simp [inS])).wr' (by simp [inS])
    · rw [wr_Ia (by decide), wr_Ia (by decide), wr_Ia (by decide), wr_Ia (by decide)]
      exact (m x hx).2.1
    · have g := (m x hx).2.2 j hj
      have o := s.ok hb
      by_cases z : x = r' ∧ j = a
      · obtain ⟨rfl, rfl⟩ := z
        rw [updN_s, updN_s, updN_s, updN_s, updN_s, updN_s, updN_s, updN_s]
        refine ⟨?_, by decide, fun _ => ⟨⟨o.1, o.2.1, o.2.2.1, o.2.2.2.1⟩, ?_, ?_, ?_⟩⟩
        · rw [wr_Ij (by omega), wr_Ij (by omega), wr_Ij (by omega), wr_I]
        · rw [wr_Ij (by omega), wr_Ij (by omega), wr_I]
        · rw [wr_Ij (by omega), wr_I]
        · rw [wr_I]
      · have ne : ∀ (f : Nat → Nat → Nat) (v : Nat), updN f r' (updN (f r') a v) x j = f x j := by
          intro f v
          by_cases e : x = r'
          · rw [e, updN_s, updN_o (fun y => z ⟨e, y⟩)]
          · rw [updN_o e]
        have z2 : 24 * x + 4 * j ≠ 24 * r' + 4 * a := fun y => z ⟨by omega, by omega⟩
        rw [ne, ne, ne, ne]
        refine ⟨?_, g.2.1, fun y => ⟨(g.2.2 y).1, ?_, ?_, ?_⟩⟩
        · rw [wr_Ij (by omega), wr_Ij (by omega), wr_Ij (by omega), wr_Ij (by omega)]; exact g.1
        · rw [wr_Ij (by omega), wr_Ij (by omega), wr_Ij (by omega), wr_Ij (by omega)]; exact (g.2.2 y).2.1
        · rw [wr_Ij (by omega), wr_Ij (by omega), wr_Ij (by omega), wr_Ij (by omega)]; exact (g.2.2 y).2.2.1
        · rw [wr_Ij (by omega), wr_Ij (by omega), wr_Ij (by omega), wr_Ij (by omega)]; exact (g.2.2 y).2.2.2
  · intro ok
    unfold a_lay
    exact pre _ (fun z => by rw [if_neg z]) (fun z y => by rw [if_pos z, if_pos y]) (fun z y w => by rw [if_pos z, if_neg y, if_neg w]) (fun z => absurd z ok)
theorem mo_build (s : mS c n K P B h) (m : mRk rl rF rK rP rB h) (r : Int32) : (buildOk rl r → ∃ h', XX true 4 235 0 [.ref 153, .int (r), ax_junk, ax_junk] [] (h) (some (.int (a_build c rl rF rK r)), h') ∧ fr frA h h' ∧ mS c (v_bld c (rF (ix r)) (rK (ix r)) (rl (ix r)) 0) (rK (ix r)) (rP (ix r)) (rB (ix r)) h') ∧ (¬ buildOk rl r → XX true 4 235 0 [.ref 153, .int (r), ax_junk, ax_junk] [] (h) (some (.int (a_build c rl rF rK r)), h)) := by
  have w9 : ∀ x, x = 9 ∨ x ≤ 6 → (rkW x = -nI 9 ↔ x = 9) := by
    intro x hx
    rcases hx with rfl | hx
    · decide
    · revert x
      decide
  have pre : ∀ R, (¬ isLe 1 r → R = (some (.int (-nI 2)), h)) → (isLe 1 r → rl (ix r) = 9 → R = (some (.int (-nI 11)), h)) → (buildOk rl r → XX true 4 235 31 [.ref 153, .int (r), .int (nI 0), ax_junk] [] (ax_wr h 153 2 (.int (nI 0))) (R)) → XX true 4 235 0 [.ref 153, .int (r), ax_junk, ax_junk] [] (h) (R) := by
    intro R u1 u2 u3
    refine wb_X12_build_0 ?_
    refine (cl_X12_build_1 rfl (by decide) (sp_isRack _ _)).mpr ?_
    refine wb_X12_build_4 ?_
    by_cases q : isLe 1 r
    · rw [b2i_t q, if_neg (by decide)]
      obtain ⟨r', hr, rfl⟩ := q.ex (by decide)
      have er : ix (nI r') = r' := ix_nI (by omega)
      rw [er] at u2 ⊢
      have mr := m r' (by omega)
      rw [mr.2.1]
      refine ⟨in_nI (by omega) (by decide), ?_⟩
      by_cases q3 : rl r' = 9
      · rw [if_pos ((w9 _ mr.1).mpr q3)]
        exact u2 q q3
      · rw [if_neg (fun z => q3 ((w9 _ mr.1).mp z))]
        exact u3 ⟨q, by rw [er]; exact q3⟩
    · rw [b2i_f q, if_pos rfl]
      exact u1 q
  constructor
  · intro ok
    obtain ⟨r', hr, rfl⟩ := ok.1.ex (by decide)
    have er : ix (nI r') = r' := ix_nI (by omega)
    have q3 := ok.2
    rw [er] at q3
    have rl6 := (m r' (by omega)).1.resolve_left q3
    unfold a_build
    rw [if_pos ok.1, if_neg ok.2, er]
    have lp : ∀ k i, i + k = rl r' → ∀ h1, fr frA h h1 → mS c i (rK r') (rP r') (rB r') h1 → ∃ h', XX true 4 235 31 [.ref 153, .int (nI r'), .int (nI i), ax_junk] [] (h1) ((some (.int (nI (v_bld c (rF r') (rK r') k i))), h')) ∧ fr frA h h' ∧ mS c (v_bld c (rF r') (rK r') k i) (rK r') (rP r') (rB r') h' := by
      intro k
      induction k with
      | zero =>
        intro i hi h1 f s1
        refine ⟨h1, ?_, f, s1⟩
        have m1 := m.fr f (fun _ => rfl) (fun _ => rfl)
        refine wb_X12_build_31 ?_
        rw [er, (m1 r' (by omega)).2.1, show rkW (rl r') = nI (rl r') from if_neg q3]
        refine ⟨in_nI (by omega) (by decide), ?_⟩
        rw [if_neg (nI_nlt (by omega) (by omega)), s1.nn]
        rfl
      | succ k ih =>
        intro i hi h1 f s1
        have m1 := m.fr f (fun _ => rfl) (fun _ => rfl)
        have g := (m1 r' (by omega)).2.2 i (by omega)
        have sto : ∀ z, XX true 4 235 74 [.ref 153, ax_junk, ax_junk, ax_junk] [] (h1) ((some (.int (nI i)), h1)) ∨ z := fun z => Or.inl (by
          refine wb_X12_build_74 ?_
          rw [s1.nn])
        have go : (∀ R, (rF r' i = 0 → XX true 4 235 74 [.ref 153, ax_junk, ax_junk, ax_junk] [] (h1) (R)) → (rF r' i = 1 → XX true 4 235 71 [.ref 153, .int (nI r'), .int (nI i), .int (nI (24 * r' + 4 * i))] [.int (b2i (isCd (rK r' i) → v_out (rK r') i < c))] (h1) (R)) → XX true 4 235 31 [.ref 153, .int (nI r'), .int (nI i), ax_junk] [] (h1) (R)) := by
          intro R u1 u2
          refine wb_X12_build_31 ?_
          rw [er, (m1 r' (by omega)).2.1, show rkW (rl r') = nI (rl r') from if_neg q3]
          refine ⟨in_nI (by omega) (by decide), ?_⟩
          rw [if_pos (nI_lt (by omega) (by omega)), nI_mulI, nI_add, nI_mulI, nI_add, show 4 * (6 * r' + i) = 24 * r' + 4 * i by omega, ix_nI (by omega), ix_nI (by omega), g.1]
          refine ⟨in_nI (by omega) (by decide), ?_⟩
          by_cases z : rF r' i = 0
          · rw [if_pos (congrArg nI z)]
            exact wk_X12_build_74 (u1 z)
          · have := g.2.1
            rw [if_neg (nI_z (by omega) (by omega))]
            refine ⟨in_nI (by omega) (by decide), ?_⟩
            have z1 : rF r' i = 1 := by omega
            rw [(g.2.2 z1).2.1]
            refine (cl_X12_build_68 rfl (by decide) (sp_isCardLeft s1 (g.2.2 z1).1.1)).mpr ?_
            exact u2 z1
        have e : v_bld c (rF r') (rK r') (k + 1) i = if rF r' i = 1 ∧ (isCd (rK r' i) → v_out (rK r') i < c) then v_bld c (rF r') (rK r') k (i + 1) else i := rfl
        by_cases z : rF r' i = 1 ∧ (isCd (rK r' i) → v_out (rK r') i < c)
        · rw [e, if_pos z]
          obtain ⟨o, g1, g2, g3⟩ := g.2.2 z.1
          obtain ⟨h2, r2, f2, s2⟩ := sp_adds s1 (by omega) o z.2
          rw [updN_self, updN_self, updN_self] at s2
          obtain ⟨h', x, y⟩ := ih (i + 1) (by omega) h2 (f.trans f2) s2
          refine ⟨h', go _ (fun y => absurd (z.1.symm.trans y) (by decide)) (fun _ => ?_), y⟩
          refine wb_X12_build_71 ?_
          rw [b2i_t z.2, if_neg (by decide), nI_add, nI_add, nI_add, ix_nI (by omega), ix_nI (by omega), ix_nI (by omega), g1, g2, g3]
          refine ⟨in_nI (by omega) (by decide), in_nI (by omega) (by decide), in_nI (by omega) (by decide), ?_⟩
          refine (cl_X12_build_104 rfl (by decide) (r2)).mpr ?_
          refine wb_X12_build_107 ?_
          rw [nI_s]
          exact x
        · rw [e, if_neg z]
          have st : XX true 4 235 74 [.ref 153, ax_junk, ax_junk, ax_junk] [] (h1) ((some (.int (nI i)), h1)) := by
            refine wb_X12_build_74 ?_
            rw [s1.nn]
          refine ⟨h1, go _ (fun _ => st) (fun y => ?_), f, s1⟩
          refine wb_X12_build_71 ?_
          rw [b2i_f (fun w => z ⟨y, w⟩), if_pos rfl]
          exact wk_X12_build_74 st
    obtain ⟨h', x, y⟩ := lp (rl r') 0 (by omega) (ax_wr h 153 2 (.int (nI 0))) (fr.wr rfl) ⟨⟨s.1.1, s.1.2.1, by decide, fun i hi => absurd hi (Nat.not_lt_zero _)⟩, (wr_In (by decide)).trans s.cc, wr_I _ _ _ _, fun i hi => absurd hi (Nat.not_lt_zero _)⟩
    exact ⟨h', pre _ (fun z => absurd ok.1 z) (fun _ z => absurd z ok.2) (fun _ => x), y⟩
  · intro ok
    unfold a_build
    exact pre _ (fun z => by rw [if_neg z]) (fun z y => by rw [if_pos z, if_pos y]) (fun z => absurd z ok)
def a_count (c n np nr sk : Nat) (w : Int32) : Int64 := if w = nI 0 then lN c else if w = nI 1 then lN n else if w = nI 2 then lN np else if w = nI 3 then lN nr else if w = nI 4 then lN sk else lNO 2
theorem mo_count {U : Nat → Nat → Nat} {V : Nat → Int} {sk : Nat} (s : mS c n K P B h) (t : mP np T C h) (r : mR nr U V h) (k : mK sk h) (w : Int32) : XX true 2 255 0 [.ref 153, .int (w)] [] (h) (some (.long (a_count c n np nr sk w)), h) := by
  have hc := s.c5
  have h6 := s.n6
  have h8 := r.2.1.1
  have hp := t.1
  unfold a_count
  refine wb_X12_count_0 ?_
  by_cases q0 : w = nI 0
  · rw [if_pos q0]
    refine (sw_X12_count_1_0 q0).mpr ?_
    refine wb_X12_count_36 ?_
    rw [s.cc, nI_l (by omega)]
  · rw [if_neg q0]
    by_cases q1 : w = nI 1
    · rw [if_pos q1]
      refine (sw_X12_count_1_1 q1).mpr ?_
      refine wb_X12_count_42 ?_
      rw [s.nn, nI_l (by omega)]
    · rw [if_neg q1]
      by_cases q2 : w = nI 2
      · rw [if_pos q2]
        refine (sw_X12_count_1_2 q2).mpr ?_
        refine wb_X12_count_48 ?_
        rw [t.2.1, nI_l (by omega)]
      · rw [if_neg q2]
        by_cases q3 : w = nI 3
        · rw [if_pos q3]
          refine (sw_X12_count_1_3 q3).mpr ?_
          refine wb_X12_count_54 ?_
          rw [r.1, nI_l (by omega)]
        · rw [if_neg q3]
          by_cases q4 : w = nI 4
          · rw [if_pos q4]
            refine (sw_X12_count_1_4 q4).mpr ?_
            refine wb_X12_count_60 ?_
            rw [k.1]
          · rw [if_neg q4]
            refine (sw_X12_count_1_d ?_).mpr ?_
            · apply Classical.byContradiction
              intro z
              have : ∃ j : Nat, j ≤ 4 ∧ w = nI j := nI_of3 (by decide) (Int32.le_iff_toInt_le.mpr (by rw [show (nI 0).toInt = 0 by decide]; omega)) (Int32.le_iff_toInt_le.mpr (by rw [show (nI 4).toInt = 4 by decide]; omega))
              obtain ⟨j, hj, rfl⟩ := this
              match j, hj with
              | 0, _ => exact q0 rfl
              | 1, _ => exact q1 rfl
              | 2, _ => exact q2 rfl
              | 3, _ => exact q3 rfl
              | 4, _ => exact q4 rfl
            · refine wk_X12_count_65 ?_
              refine wb_X12_count_65 ?_
              refine (cl_X12_count_67 rfl (by decide) (sp_refused _ _)).mpr ?_
              refine wb_X12_count_70 ?_
              rfl
end S48
