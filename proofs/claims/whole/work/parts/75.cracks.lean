/-! THE CLASS'S CALLS: feed, racks, count -/
/-- a rack's length as the class keeps it -/
abbrev rcW (x : Nat) : Int32 := if x = 9 then -nI 1 else nI x
theorem rcW_9 : ∀ x, x = 9 ∨ x ≤ 6 → (rcW x = -nI 1 ↔ x = 9) := by
  intro x hx
  rcases hx with rfl | hx
  · decide
  · revert x
    decide
theorem rcW_N {n : Int32} (h1 : n ≤ nI 6) (h2 : n < nI 0 → n = -nI 9) : (n = -nI 9 → rcW (rkN n) = -nI 1) ∧ (n ≠ -nI 9 → rcW (rkN n) = n) ∧ (rkN n = 9 ∨ rkN n ≤ 6) := by
  unfold rcW rkN
  by_cases q : n < nI 0
  · rw [if_pos q, if_pos rfl]
    exact ⟨fun _ => rfl, fun z => absurd (h2 q) z, Or.inl rfl⟩
  · rw [if_neg q]
    obtain ⟨k, hk, rfl⟩ := nI_of3 (by decide) (Int32.not_lt.mp q) h1
    rw [ix_nI (by omega), if_neg (by omega)]
    exact ⟨fun z => absurd (show nI k < nI 0 by rw [z]; decide) q, fun _ => rfl, Or.inr hk⟩
/-- the racks as the class keeps them -/
def cRk (rl : Nat → Nat) (rF rK rP rB RS : Nat → Nat → Nat) (h : AH) : Prop := ∀ r, r < 2 → (rl r = 9 ∨ rl r ≤ 6) ∧ hI h 139 r = rcW (rl r) ∧ ∀ i, i < 6 → hR h 138 (6 * r + i) = rf (if rF r i = 1 then RS r i else 9) ∧ (rF r i = 1 → okT (rK r i) (rP r i) (rB r i) ∧ sO h (RS r i) (rK r i) (rP r i) (rB r i))
abbrev cfRk : List (Nat × Option Nat) := [(138, none), (139, none)]
theorem cRk_fx {k0 : Nat} {rl : Nat → Nat} {rF rK rP rB RS : Nat → Nat → Nat} {h h' : AH} (s : cRk rl rF rK rP rB RS h) {L : List (Nat × Option Nat)} (f : fx k0 L h h') (al : 181 ≤ h.2.2.1) (q : ∀ j, inS L 138 j = false) (q2 : ∀ j, inS L 139 j = false) (q3 : loS L = true) : cRk rl rF rK rP rB RS h' := fun r hr => ⟨(s r hr).1, (f.I (by omega) (q2 r)).trans (s r hr).2.1, fun i hi => ⟨(f.R (by omega) (q _)).trans ((s r hr).2.2 i hi).1, fun y => ⟨(((s r hr).2.2 i hi).2 y).1, sO_fx (((s r hr).2.2 i hi).2 y).2 f q3⟩⟩⟩
theorem cRk_fr {rl : Nat → Nat} {rF rK rP rB RS : Nat → Nat → Nat} {h h' : AH} (s : cRk rl rF rK rP rB RS h) {L : List (Nat × Option Nat)} (f : fr L h h') (q : ∀ j, inS L 138 j = false) (q2 : ∀ j, inS L 139 j = false) (q3 : loS L = true) : cRk rl rF rK rP rB RS h' := fun r hr => ⟨(s r hr).1, (f.I (q2 r)).trans (s r hr).2.1, fun i hi => ⟨(f.R (q _)).trans ((s r hr).2.2 i hi).1, fun y => ⟨(((s r hr).2.2 i hi).2 y).1, (((s r hr).2.2 i hi).2 y).2.fr f q3⟩⟩⟩
/-- the tape as the class keeps it -/
def cTp (tn : Nat) (tb : Nat → Int32) (h : AH) : Prop := tn ≤ 120 ∧ hI h 136 1 = nI tn ∧ ∀ i, i < tn → hI h 137 i = tb i
theorem cTp_fx {k0 tn : Nat} {tb : Nat → Int32} {h h' : AH} (s : cTp tn tb h) {L : List (Nat × Option Nat)} (f : fx k0 L h h') (al : 181 ≤ h.2.2.1) (q : ∀ j, inS L 137 j = false) (q2 : inS L 136 1 = false) : cTp tn tb h' := ⟨s.1, (f.I (by omega) q2).trans s.2.1, fun i hi => (f.I (by omega) (q i)).trans (s.2.2 i hi)⟩
theorem cTp_fr {tn : Nat} {tb : Nat → Int32} {h h' : AH} (s : cTp tn tb h) {L : List (Nat × Option Nat)} (f : fr L h h') (q : ∀ j, inS L 137 j = false) (q2 : inS L 136 1 = false) : cTp tn tb h' := ⟨s.1, (f.I q2).trans s.2.1, fun i hi => (f.I (q i)).trans (s.2.2 i hi)⟩
section S75
variable {c n np nr tn : Nat} {K P B S T C : Nat → Nat} {tb : Nat → Int32} {rl : Nat → Nat} {rF rK rP rB RS : Nat → Nat → Nat} {h h' : AH}
abbrev cfTp : List (Nat × Option Nat) := [(137, none), (136, some 1)]
theorem sp_tpAdd (t : cTp tn tb h) (x : Int32) {m : Nat} (hm : m ≤ 4) (q2 : tn + m ≤ 120) : ∃ h', XX true 1 108 0 [.ref 136, .int (nI m), .int (x), ax_junk] [] (h) (none, h') ∧ fr cfTp h h' ∧ cTp (tn + m) (v_fed tb tn x) h' := by
  have t120 := t.1
  have lp : ∀ k i, i + k = m → ∀ h1, fr cfTp h h1 → hI h1 136 1 = nI (tn + i) → (∀ a, a < tn + i → hI h1 137 a = v_fed tb tn x a) → ∃ h', XX true 1 108 2 [.ref 136, .int (nI m), .int (x), .int (nI i)] [] (h1) ((none, h')) ∧ fr cfTp h h' ∧ cTp (tn + m) (v_fed tb tn x) h' := by
    intro k
    induction k with
    | zero =>
      intro i hi h1 f e1 e2
      obtain rfl : i = m := hi
      refine ⟨h1, ?_, f, q2, e1, e2⟩
      refine wb_X9_add_2 ?_
      rw [if_neg (nI_nlt (Nat.le_refl _) (by omega))]
    | succ k ih =>
      intro i hi h1 f e1 e2
      obtain ⟨h', r, y⟩ := ih (i + 1) (by omega) (ax_wr (ax_wr h1 137 (tn + i) (.int (v_by x i))) 136 1 (.int (nI (tn + (i + 1))))) ((f.wr' (by simp [inS])).wr' (by simp [inS])) (wr_I _ _ _ _) (fun a ha => by
        rw [wr_Ia (by decide)]
        by_cases z : a = tn + i
        · rw [z, wr_I]
          unfold v_fed
          rw [if_neg (by omega), Nat.add_sub_cancel_left]
        · rw [wr_Ij z]
          exact e2 a (by omega))
      refine ⟨h', ?_, y⟩
      refine wb_X9_add_2 ?_
      rw [if_pos (nI_lt (by omega) (by omega)), e1, if_pos (nI_lt (by omega) (by omega)), ix_nI (by omega), nI_s]
      refine ⟨in_nI (by omega) (by decide), ?_⟩
      rw [wr_Ia (by decide), e1, nI_s]
      exact r
  obtain ⟨h', r, y⟩ := lp m 0 (by omega) h fr.rfl' t.2.1 (fun a ha => by
    unfold v_fed
    rw [if_pos (by omega)]
    exact t.2.2 a (by omega))
  refine ⟨h', ?_, y⟩
  refine wb_X9_add_0 ?_
  exact r
theorem co_feed (t : cTp tn tb h) (n x : Int32) : (feedOk tn n → ∃ h', XX true 2 107 0 [.ref 64, .int (n), .int (x)] [] (h) (some (.int (a_feed tn n)), h') ∧ fr cfTp h h' ∧ cTp (tn + ix n) (v_fed tb tn x) h') ∧ (¬ feedOk tn n → XX true 2 107 0 [.ref 64, .int (n), .int (x)] [] (h) (some (.int (a_feed tn n)), h)) := by
  have t120 := t.1
  have pre : ∀ R, (¬ (nI 1 ≤ n ∧ n ≤ nI 4) → R = (some (.int (-nI 2)), h)) → ((nI 1 ≤ n ∧ n ≤ nI 4) → ¬ tn + ix n ≤ 120 → R = (some (.int (-nI 4)), h)) → (feedOk tn n → XX true 2 107 36 [.ref 64, ax_junk, ax_junk] [.int (x), .int (n), .ref 136] (h) (R)) → XX true 2 107 0 [.ref 64, .int (n), .int (x)] [] (h) (R) := by
    intro R u1 u2 u3
    refine wb_X11_feed_0 ?_
    by_cases w1 : n < nI 1
    · rw [if_pos w1]
      exact u1 (fun z => absurd z.1 (Int32.not_le.mpr w1))
    · rw [if_neg w1]
      by_cases w2 : n ≤ nI 4
      · rw [if_pos w2]
        have q : nI 1 ≤ n ∧ n ≤ nI 4 := ⟨Int32.not_lt.mp w1, w2⟩
        obtain ⟨m', hm, rfl⟩ := nI_of3 (by decide) (Int32.le_trans (by decide) q.1) q.2
        have e : ix (nI m') = m' := ix_nI (by omega)
        rw [e] at u2
        rw [t.2.1, nI_add]
        by_cases q2 : tn + m' ≤ 120
        · rw [if_pos ((nI_leI (by omega) (by omega)).mpr q2)]
          exact wkj (u3 ⟨q, by rw [e]; exact q2⟩)
        · rw [if_neg (fun z => q2 ((nI_leI (by omega) (by omega)).mp z))]
          exact u2 q q2
      · rw [if_neg w2]
        exact u1 (fun z => w2 z.2)
  constructor
  · intro ok
    have q := ok.1
    have q2 := ok.2
    obtain ⟨m', hm, rfl⟩ := nI_of3 (by decide) (Int32.le_trans (by decide) q.1) q.2
    have e : ix (nI m') = m' := ix_nI (by omega)
    rw [e] at q2 ⊢
    obtain ⟨h', r, f, y⟩ := sp_tpAdd t x hm q2
    refine ⟨h', pre _ (fun z => absurd q z) (fun _ z => absurd q2 (by rw [e] at z; exact z)) (fun _ => ?_), f, y⟩
    unfold a_feed
    rw [if_pos q, e, if_pos q2]
    refine cl_X11_feed_36 rfl (by decide) (r) ?_
    refine wb_X11_feed_39 ?_
    rw [y.2.1]
  · intro ok
    unfold a_feed
    exact pre _ (fun z => by rw [if_neg z]) (fun z y => by rw [if_pos z, if_neg y]) (fun z => absurd z ok)
theorem cp_isRack (p : Int32) (h : AH) : XX true 1 129 0 [.int (p)] [] (h) (some (.int (b2i (isLe 1 p))), h) := by
  have e : p < nI 2 ↔ p ≤ nI 1 := by
    rw [Int32.lt_iff_toInt_lt, Int32.le_iff_toInt_le, show (nI 2).toInt = 2 by decide, show (nI 1).toInt = 1 by decide]
    omega
  refine wb_X11_isRack_0 ?_
  by_cases q : p < nI 0
  · rw [if_pos q, b2i_f (fun z => absurd z.1 (Int32.not_le.mpr q))]
  · rw [if_neg q]
    by_cases r : p < nI 2
    · rw [if_pos r, b2i_t ⟨Int32.not_lt.mp q, e.mp r⟩]
    · rw [if_neg r, b2i_f (fun z => r (e.mpr z.2))]
theorem co_rack (m : cRk rl rF rK rP rB RS h) (r n : Int32) : (rackOk r n → ∃ h', XX true 2 128 0 [.ref 64, .int (r), .int (n), ax_junk] [] (h) (some (.int (a_rack r n)), h') ∧ fr cfRk h h' ∧ cRk (updN rl (ix r) (rkN n)) (updN rF (ix r) (fun _ => 0)) rK rP rB RS h') ∧ (¬ rackOk r n → XX true 2 128 0 [.ref 64, .int (r), .int (n), ax_junk] [] (h) (some (.int (a_rack r n)), h)) := by
  have pre : ∀ R, (¬ (isLe 1 r ∧ n ≤ nI 6) → R = (some (.int (-nI 2)), h)) → (isLe 1 r ∧ n ≤ nI 6 → n < nI 0 ∧ n ≠ -nI 9 → R = (some (.int (-nI 14)), h)) → (rackOk r n → XX true 2 128 29 [.ref 64, .int (r), .int (n), ax_junk] [] (h) (R)) → XX true 2 128 0 [.ref 64, .int (r), .int (n), ax_junk] [] (h) (R) := by
    intro R u1 u2 u3
    refine wb_X11_rack_0 ?_
    refine cl_X11_rack_1 rfl (by decide) (cp_isRack _ _) ?_
    refine wb_X11_rack_4 ?_
    by_cases q : isLe 1 r
    · rw [b2i_t q, if_neg (by decide)]
      by_cases q2 : n ≤ nI 6
      · rw [if_pos q2]
        by_cases q3 : n < nI 0
        · rw [if_pos q3]
          by_cases q4 : n = -nI 9
          · rw [if_pos q4]
            exact u3 ⟨q, q2, fun _ => q4⟩
          · rw [if_neg q4]
            exact u2 ⟨q, q2⟩ ⟨q3, q4⟩
        · rw [if_neg q3]
          exact u3 ⟨q, q2, fun z => absurd z q3⟩
      · rw [if_neg q2]
        exact u1 (fun z => q2 z.2)
    · rw [b2i_f q, if_pos rfl]
      exact u1 (fun z => q z.1)
  constructor
  · intro ok
    have eA : a_rack r n = nI 1 := by
      unfold a_rack
      rw [if_pos ⟨ok.1, ok.2.1⟩, if_neg (fun z => z.2 (ok.2.2 z.1))]
    obtain ⟨eW, eW2, eN⟩ := rcW_N ok.2.1 ok.2.2
    obtain ⟨r', hr, rfl⟩ := ok.1.ex (by decide)
    have er : ix (nI r') = r' := ix_nI (by omega)
    rw [er]
    have lp : ∀ k i, i + k = 6 → ∀ h1, fr cfRk h h1 → (∀ a, a < 2 → hI h1 139 a = rcW (updN rl r' (rkN n) a)) → (∀ a j, a < 2 → a ≠ r' → j < 6 → hR h1 138 (6 * a + j) = hR h 138 (6 * a + j)) → (∀ j, j < i → hR h1 138 (6 * r' + j) = rf 9) → ∃ h', XX true 2 128 48 [.ref 64, .int (nI r'), ax_junk, .int (nI i)] [] (h1) ((some (.int (nI 1)), h')) ∧ fr cfRk h h' ∧ cRk (updN rl r' (rkN n)) (updN rF r' (fun _ => 0)) rK rP rB RS h' := by
      intro k
      induction k with
      | zero =>
        intro i hi h1 f e1 e2 e3
        obtain rfl : i = 6 := hi
        refine ⟨h1, ?_, f, fun a ha => ⟨?_, e1 a ha, fun i hi => ?_⟩⟩
        · refine wb_X11_rack_48 ?_
          rw [if_neg (by decide)]
        · by_cases z : a = r'
          · rw [z, updN_s]; exact eN
          · rw [updN_o z]; exact (m a ha).1
        · by_cases z : a = r'
          · rw [z, updN_s, if_neg (by decide)]
            exact ⟨e3 _ hi, fun y => absurd y (by decide)⟩
          · rw [updN_o z]
            have g := (m a ha).2.2 i hi
            exact ⟨(e2 a _ ha z hi).trans g.1, fun y => ⟨(g.2 y).1, (g.2 y).2.fr f rfl⟩⟩
      | succ k ih =>
        intro i hi h1 f e1 e2 e3
        obtain ⟨h', x, y⟩ := ih (i + 1) (by omega) (ax_wr h1 138 (6 * r' + i) (rf 9)) (f.wr' (by simp [inS])) (fun a ha => by rw [wr_Ia (by decide)]; exact e1 a ha) (fun a j ha z hj => by rw [wr_Rj (by omega)]; exact e2 a j ha z hj) (fun j hj => by
          by_cases z : j = i
          · rw [z, wr_R]; rfl
          · rw [wr_Rj (by omega)]; exact e3 j (by omega))
        refine ⟨h', ?_, y⟩
        refine wb_X11_rack_48 ?_
        rw [if_pos (nI_lt (by omega) (by omega)), nI_mulI, nI_add, Nat.mul_comm r' 6, ix_nI (by omega), nI_s]
        exact ⟨in_nI (by omega) (by decide), Or.inl rfl, x⟩
    have go : ∀ y, rcW (rkN n) = y → ∃ h', XX true 2 128 45 [.ref 64, .int (nI r'), ax_junk, ax_junk] [.int (y), .int (nI r'), .ref 139] (h) ((some (.int (nI 1)), h')) ∧ fr cfRk h h' ∧ cRk (updN rl r' (rkN n)) (updN rF r' (fun _ => 0)) rK rP rB RS h' := by
      intro y ey
      obtain ⟨h', x, g⟩ := lp 6 0 rfl (ax_wr h 139 r' (.int y)) (fr.wr (by simp [inS])) (fun a ha => by
        by_cases z : a = r'
        · rw [z, wr_I, updN_s, ey]
        · rw [wr_Ij z, updN_o z]; exact (m a ha).2.1) (fun a j ha z hj => wr_Ra (by decide)) (fun j hj => absurd hj (Nat.not_lt_zero _))
      refine ⟨h', ?_, g⟩
      refine wb_X11_rack_45 ?_
      rw [er]
      exact ⟨in_nI (by omega) (by decide), x⟩
    by_cases q9 : n = -nI 9
    · obtain ⟨h', x, y⟩ := go _ (eW q9)
      refine ⟨h', pre _ (fun z => absurd ⟨ok.1, ok.2.1⟩ z) (fun _ z => absurd (ok.2.2 z.1) z.2) (fun _ => ?_), y⟩
      rw [eA]
      refine wb_X11_rack_29 ?_
      rw [if_pos q9]
      exact x
    · obtain ⟨h', x, y⟩ := go _ (eW2 q9)
      refine ⟨h', pre _ (fun z => absurd ⟨ok.1, ok.2.1⟩ z) (fun _ z => absurd (ok.2.2 z.1) z.2) (fun _ => ?_), y⟩
      rw [eA]
      refine wb_X11_rack_29 ?_
      rw [if_neg q9]
      exact x
  · intro ok
    unfold a_rack
    exact pre _ (fun z => by rw [if_neg z]) (fun z y => by rw [if_pos z, if_pos y]) (fun z => absurd z ok)
theorem co_lay (s : tS 0 c n K P B S h) (m : cRk rl rF rK rP rB RS h) (r i t : Int32) : (layOk rl n r i t → ∃ h', XX true 2 130 0 [.ref 64, .int (r), .int (i), .int (t), ax_junk] [] (h) (some (.int (a_lay rl n r i t)), h') ∧ fr cfRk h h' ∧ cRk rl (updN rF (ix r) (updN (rF (ix r)) (ix i) 1)) (updN rK (ix r) (updN (rK (ix r)) (ix i) (K (ix t)))) (updN rP (ix r) (updN (rP (ix r)) (ix i) (P (ix t)))) (updN rB (ix r) (updN (rB (ix r)) (ix i) (B (ix t)))) (updN RS (ix r) (updN (RS (ix r)) (ix i) (S (ix t)))) h') ∧ (¬ layOk rl n r i t → XX true 2 130 0 [.ref 64, .int (r), .int (i), .int (t), ax_junk] [] (h) (some (.int (a_lay rl n r i t)), h)) := by
  have h6 := s.n6
  have pre : ∀ R, (¬ (isLe 1 r ∧ isLt n t) → R = (some (.int (-nI 2)), h)) → (isLe 1 r ∧ isLt n t → rl (ix r) = 9 → R = (some (.int (-nI 11)), h)) → (isLe 1 r ∧ isLt n t → rl (ix r) ≠ 9 → ¬ isLt (rl (ix r)) i → R = (some (.int (-nI 12)), h)) → (layOk rl n r i t → (ax_in (r * nI 6 + i) 12 = true ∧ dE h (S (ix t)) 6 ∧ R = (some (.int (nI 1)), ax_wr h 138 (ix (r * nI 6 + i)) (rf (S (ix t)))))) → XX true 2 130 0 [.ref 64, .int (r), .int (i), .int (t), ax_junk] [] (h) (R) := by
    intro R u1 u2 u3 u4
    refine wb_X11_lay_0 ?_
    refine cl_X11_lay_8 rfl (by decide) (sp_t_at s t) ?_
    refine wb_X11_lay_11 ?_
    refine cl_X11_lay_14 rfl (by decide) (cp_isRack _ _) ?_
    refine wb_X11_lay_17 ?_
    by_cases q : isLe 1 r
    · rw [b2i_t q, if_neg (by decide)]
      by_cases q2 : isLt n t
      · obtain ⟨b, hb, eb⟩ := q2.ex (by omega)
        have sb := (s.st (ix t) (by rw [eb, ix_nI (by omega)]; exact hb)).2
        rw [if_pos q2, if_neg sb.n9]
        obtain ⟨r', hr, rfl⟩ := q.ex (by decide)
        have er : ix (nI r') = r' := ix_nI (by omega)
        rw [er] at u2 u3 ⊢
        have mr := m r' (by omega)
        rw [mr.2.1]
        refine ⟨in_nI (by omega) (by decide), ?_⟩
        by_cases q3 : rl r' = 9
        · rw [if_pos ((rcW_9 _ mr.1).mpr q3)]
          exact u2 ⟨q, q2⟩ q3
        · rw [if_neg (fun z => q3 ((rcW_9 _ mr.1).mp z)), show rcW (rl r') = nI (rl r') from if_neg q3]
          by_cases q4 : i < nI 0
          · rw [if_pos q4]
            exact u3 ⟨q, q2⟩ q3 (fun z => absurd z.1 (Int32.not_le.mpr q4))
          · rw [if_neg q4]
            refine ⟨in_nI (by omega) (by decide), ?_⟩
            by_cases q5 : i < nI (rl r')
            · rw [if_pos q5]
              exact u4 ⟨q, q2, by rw [er]; exact q3, by rw [er]; exact ⟨Int32.not_lt.mp q4, q5⟩⟩
            · rw [if_neg q5]
              exact u3 ⟨q, q2⟩ q3 (fun z => q5 z.2)
      · rw [if_neg q2, if_pos rfl]
        exact u1 (fun z => q2 z.2)
    · rw [b2i_f q, if_pos rfl]
      exact u1 (fun z => q z.1)
  constructor
  · intro ok
    have eA : a_lay rl n r i t = nI 1 := by
      unfold a_lay
      rw [if_pos ⟨ok.1, ok.2.1⟩, if_neg ok.2.2.1, if_pos ok.2.2.2]
    rw [eA]
    obtain ⟨q1, q2, q3, q4⟩ := id ok
    obtain ⟨r', hr, rfl⟩ := q1.ex (by decide)
    have er : ix (nI r') = r' := ix_nI (by omega)
    rw [er] at q3 q4 ⊢
    have mr := m r' (by omega)
    have := mr.1.resolve_left q3
    obtain ⟨a, ha, rfl⟩ := q4.ex (by omega)
    obtain ⟨b, hb, rfl⟩ := q2.ex (by omega)
    have ea : ix (nI a) = a := ix_nI (by omega)
    have eb : ix (nI b) = b := ix_nI (by omega)
    have sb := (s.st b hb).2
    rw [ea, eb]
    have f1 : fr cfRk h (ax_wr h 138 (6 * r' + a) (rf (S b))) := fr.wr (by simp [inS])
    refine ⟨ax_wr h 138 (6 * r' + a) (rf (S b)), pre _ (fun z => absurd ⟨q1, q2⟩ z) (fun _ z => absurd (by rw [er] at z; exact z) q3) (fun _ _ z => absurd (by rw [er]; exact q4) z) (fun _ => ?_), f1, fun x hx => ⟨(m x hx).1, (wr_Ia (by decide)).trans (m x hx).2.1, fun j hj => ?_⟩⟩
    · rw [eb, nI_mulI, nI_add, Nat.mul_comm r' 6, ix_nI (by omega)]
      exact ⟨in_nI (by omega) (by decide), Or.inr ⟨sb.o.2.1, sb.o.2.2⟩, rfl⟩
    · have g := (m x hx).2.2 j hj
      have o := s.ok.2.2.2 b hb
      by_cases z : x = r' ∧ j = a
      · obtain ⟨rfl, rfl⟩ := z
        rw [updN_s, updN_s, updN_s, updN_s, updN_s, updN_s, updN_s, updN_s, updN_s, updN_s, wr_R, toR_rf, if_pos rfl]
        exact ⟨rfl, fun _ => ⟨⟨o.1, o.2.1, o.2.2.1, o.2.2.2.1⟩, sb.fr f1 rfl⟩⟩
      · have ne : ∀ (f : Nat → Nat → Nat) (v : Nat), updN f r' (updN (f r') a v) x j = f x j := by
          intro f v
          by_cases e : x = r'
          · rw [e, updN_s, updN_o (fun y => z ⟨e, y⟩)]
          · rw [updN_o e]
        have z2 : 6 * x + j ≠ 6 * r' + a := fun y => z ⟨by omega, by omega⟩
        rw [ne, ne, ne, ne, ne, wr_Rj z2]
        exact ⟨g.1, fun y => ⟨(g.2 y).1, (g.2 y).2.fr f1 rfl⟩⟩
  · intro ok
    unfold a_lay
    exact pre _ (fun z => by rw [if_neg z]) (fun z y => by rw [if_pos z, if_pos y]) (fun z y w => by rw [if_pos z, if_neg y, if_neg w]) (fun z => absurd z ok)
theorem co_build (s : tS 0 c n K P B S h) (m : cRk rl rF rK rP rB RS h) (r : Int32) : (buildOk rl r → ∃ h', XX true 6 131 0 [.ref 64, .int (r), ax_junk, ax_junk] [] (h) (some (.int (a_build c rl rF rK r)), h') ∧ fr cfTt h h' ∧ tS 0 c (v_bld c (rF (ix r)) (rK (ix r)) (rl (ix r)) 0) (rK (ix r)) (rP (ix r)) (rB (ix r)) (RS (ix r)) h') ∧ (¬ buildOk rl r → XX true 6 131 0 [.ref 64, .int (r), ax_junk, ax_junk] [] (h) (some (.int (a_build c rl rF rK r)), h)) := by
  have pre : ∀ R, (¬ isLe 1 r → R = (some (.int (-nI 2)), h)) → (isLe 1 r → rl (ix r) = 9 → R = (some (.int (-nI 11)), h)) → (buildOk rl r → XX true 6 131 36 [.ref 64, .int (r), .int (nI 0), ax_junk] [] (ax_wr h 66 3 (.int (nI 0))) (R)) → XX true 6 131 0 [.ref 64, .int (r), ax_junk, ax_junk] [] (h) (R) := by
    intro R u1 u2 u3
    refine wb_X11_build_0 ?_
    refine cl_X11_build_1 rfl (by decide) (cp_isRack _ _) ?_
    refine wb_X11_build_4 ?_
    by_cases q : isLe 1 r
    · rw [b2i_t q, if_neg (by decide)]
      obtain ⟨r', hr, rfl⟩ := q.ex (by decide)
      have er : ix (nI r') = r' := ix_nI (by omega)
      rw [er] at u2 ⊢
      have mr := m r' (by omega)
      rw [mr.2.1]
      refine ⟨in_nI (by omega) (by decide), ?_⟩
      by_cases q3 : rl r' = 9
      · rw [if_pos ((rcW_9 _ mr.1).mpr q3)]
        exact u2 q q3
      · rw [if_neg (fun z => q3 ((rcW_9 _ mr.1).mp z))]
        exact u3 ⟨q, by rw [er]; exact q3⟩
    · rw [b2i_f q, if_pos rfl]
      exact u1 q
  constructor
  · intro ok
    obtain ⟨r', hr, rfl⟩ := ok.1.ex (by decide)
    have er : ix (nI r') = r' := ix_nI (by omega)
    have q3 := ok.2
    rw [er] at q3
    have rl6 := (m r' (by omega)).1.resolve_left q3
    unfold a_build
    rw [if_pos ok.1, if_neg ok.2, er]
    have lp : ∀ k i, i + k = rl r' → ∀ h1, fr cfTt h h1 → tS 0 c i (rK r') (rP r') (rB r') (RS r') h1 → ∃ h', XX true 6 131 36 [.ref 64, .int (nI r'), .int (nI i), ax_junk] [] (h1) ((some (.int (nI (v_bld c (rF r') (rK r') k i))), h')) ∧ fr cfTt h h' ∧ tS 0 c (v_bld c (rF r') (rK r') k i) (rK r') (rP r') (rB r') (RS r') h' := by
      intro k
      induction k with
      | zero =>
        intro i hi h1 f s1
        refine ⟨h1, ?_, f, s1⟩
        have m1 := cRk_fr m f (fun _ => rfl) (fun _ => rfl) rfl
        refine wb_X11_build_36 ?_
        rw [er, (m1 r' (by omega)).2.1, show rcW (rl r') = nI (rl r') from if_neg q3]
        refine ⟨in_nI (by omega) (by decide), ?_⟩
        rw [if_neg (nI_nlt (by omega) (by omega))]
        refine wb_X11_build_99 ?_
        rw [s1.nn]
        rfl
      | succ k ih =>
        intro i hi h1 f s1
        have m1 := cRk_fr m f (fun _ => rfl) (fun _ => rfl) rfl
        have g := (m1 r' (by omega)).2.2 i (by omega)
        have st : XX true 6 131 99 [.ref 64, ax_junk, ax_junk, ax_junk] [] (h1) ((some (.int (nI i)), h1)) := by
          refine wb_X11_build_99 ?_
          rw [s1.nn]
        have go : (∀ R, (rF r' i ≠ 1 → XX true 6 131 99 [.ref 64, ax_junk, ax_junk, ax_junk] [] (h1) (R)) → (rF r' i = 1 → XX true 6 131 76 [.ref 64, .int (nI r'), .int (nI i), rf (RS r' i)] [.int (b2i (isCd (rK r' i) → v_out (rK r') i < c))] (h1) (R)) → XX true 6 131 36 [.ref 64, .int (nI r'), .int (nI i), ax_junk] [] (h1) (R)) := by
          intro R u1 u2
          refine wb_X11_build_36 ?_
          rw [er, (m1 r' (by omega)).2.1, show rcW (rl r') = nI (rl r') from if_neg q3]
          refine ⟨in_nI (by omega) (by decide), ?_⟩
          rw [if_pos (nI_lt (by omega) (by omega)), nI_mulI, nI_add, Nat.mul_comm r' 6, ix_nI (by omega)]
          refine ⟨in_nI (by omega) (by decide), _, g.1, ?_⟩
          by_cases z : rF r' i = 1
          · rw [if_pos z]
            obtain ⟨o1, o2⟩ := g.2 z
            rw [if_neg o2.n9]
            refine ⟨o2.o, _, o2.k, ?_⟩
            refine cl_X11_build_73 rfl (by decide) (sp_t_hasCardFor s1 o1.1) ?_
            exact u2 z
          · rw [if_neg z, if_pos rfl]
            exact wkj (u1 z)
        have e : v_bld c (rF r') (rK r') (k + 1) i = if rF r' i = 1 ∧ (isCd (rK r' i) → v_out (rK r') i < c) then v_bld c (rF r') (rK r') k (i + 1) else i := rfl
        by_cases z : rF r' i = 1 ∧ (isCd (rK r' i) → v_out (rK r') i < c)
        · rw [e, if_pos z]
          obtain ⟨o, g1⟩ := g.2 z.1
          obtain ⟨h2, r2, f2, s2⟩ := sp_t_put s1 (by omega) o z.2 g1
          rw [updN_self, updN_self, updN_self, updN_self] at s2
          obtain ⟨h', x, y⟩ := ih (i + 1) (by omega) h2 (f.trans f2) s2
          refine ⟨h', go _ (fun y => absurd z.1 y) (fun _ => ?_), y⟩
          refine wb_X11_build_76 ?_
          rw [b2i_t z.2, if_neg (by decide)]
          refine cl_X11_build_90 rfl (by decide) (r2) ?_
          refine wb_X11_build_93 ?_
          rw [nI_s]
          exact x
        · rw [e, if_neg z]
          refine ⟨h1, go _ (fun _ => st) (fun y => ?_), f, s1⟩
          refine wb_X11_build_76 ?_
          rw [b2i_f (fun w => z ⟨y, w⟩), if_pos rfl]
          exact wkj st
    have f0 : fr [(66, some 3)] h (ax_wr h 66 3 (.int (nI 0))) := fr.wr rfl
    obtain ⟨h', x, y⟩ := lp (rl r') 0 (by omega) (ax_wr h 66 3 (.int (nI 0))) (f0.mono rfl) ((tS_cut s (Nat.zero_le _) f0 (wr_I _ _ _ _)).congr (fun a ha => absurd ha (Nat.not_lt_zero _)))
    exact ⟨h', pre _ (fun z => absurd ok.1 z) (fun _ z => absurd z ok.2) (fun _ => x), y⟩
  · intro ok
    unfold a_build
    exact pre _ (fun z => by rw [if_neg z]) (fun z y => by rw [if_pos z, if_pos y]) (fun z => absurd z ok)
theorem co_count {U : Nat → Nat → Nat} {V : Nat → Int} {TA AA : Nat → Nat} {sk : Nat} (s : tS 0 c n K P B S h) (t : cP 0 np T C h) (r : cR 0 nr U V TA AA h) (k : cK 0 sk h) (w : Int32) : XX true 1 152 0 [.ref 64, .int (w)] [] (h) (some (.long (a_count c n np nr sk w)), h) := by
  have hc := s.c5
  have h6 := s.n6
  have hp := t.1
  have h8 := r.2.1.1.1
  unfold a_count
  refine wb_X11_count_0 ?_
  by_cases q0 : w = nI 0
  · rw [if_pos q0]
    refine (sw_X11_count_1_0 q0).mpr ?_
    refine wb_X11_count_36 ?_
    rw [s.cc, nI_l (by omega)]
  · rw [if_neg q0]
    by_cases q1 : w = nI 1
    · rw [if_pos q1]
      refine (sw_X11_count_1_1 q1).mpr ?_
      refine wb_X11_count_48 ?_
      rw [s.nn, nI_l (by omega)]
    · rw [if_neg q1]
      by_cases q2 : w = nI 2
      · rw [if_pos q2]
        refine (sw_X11_count_1_2 q2).mpr ?_
        refine wb_X11_count_60 ?_
        rw [t.2.1, nI_l (by omega)]
      · rw [if_neg q2]
        by_cases q3 : w = nI 3
        · rw [if_pos q3]
          refine (sw_X11_count_1_3 q3).mpr ?_
          refine wb_X11_count_72 ?_
          rw [r.1, nI_l (by omega)]
        · rw [if_neg q3]
          by_cases q4 : w = nI 4
          · rw [if_pos q4]
            refine (sw_X11_count_1_4 q4).mpr ?_
            refine wb_X11_count_81 ?_
            rw [k.1]
          · rw [if_neg q4]
            refine (sw_X11_count_1_d ?_).mpr ?_
            · apply Classical.byContradiction
              intro z
              have : ∃ j : Nat, j ≤ 4 ∧ w = nI j := nI_of3 (by decide) (Int32.le_iff_toInt_le.mpr (by rw [show (nI 0).toInt = 0 by decide]; omega)) (Int32.le_iff_toInt_le.mpr (by rw [show (nI 4).toInt = 4 by decide]; omega))
              obtain ⟨j, hj, rfl⟩ := this
              match j, hj with
              | 0, _ => exact q0 rfl
              | 1, _ => exact q1 rfl
              | 2, _ => exact q2 rfl
              | 3, _ => exact q3 rfl
              | 4, _ => exact q4 rfl
            · refine wb_X11_count_89 ?_
              rfl
end S75
