/-! SETS: the reference's rows -/
abbrev frS : List (Nat × Option Nat) := [(160, none), (161, none), (162, none), (153, some 14)]
/-- behind F sets lie the m views f of stage j; those ahead are as in h -/
def mV (h : AH) (j F m : Nat) (f : Nat → Nat) (h' : AH) : Prop := fr frS h h' ∧ hI h' 153 14 = nI (F + m) ∧ (∀ t, t < m → hI h' 161 (F + t) = nI j ∧ hI h' 162 (F + t) = nI (f t)) ∧ ∀ t, t < F → hI h' 161 t = hI h 161 t ∧ hI h' 162 t = hI h 162 t
section S28
variable {c n np : Nat} {K P B T C : Nat → Nat} {h h' : AH}
theorem mV.fr {j F m : Nat} {f : Nat → Nat} {h2 : AH} (s : mV h j F m f h') (q : fr [(160, none)] h' h2) : mV h j F m f h2 := ⟨s.1.trans (q.mono rfl), (q.I rfl).trans s.2.1, fun t ht => ⟨(q.I rfl).trans (s.2.2.1 t ht).1, (q.I rfl).trans (s.2.2.1 t ht).2⟩, fun t ht => ⟨(q.I rfl).trans (s.2.2.2 t ht).1, (q.I rfl).trans (s.2.2.2 t ht).2⟩⟩
theorem sp_lv_at {p j F m W w v : Nat} {f : Nat → Nat} {h1 : AH} (s : mV h j F m f h1) (hF : F + m < 9720) (hv : v < 524288) (hf : ∀ t, t < m → f t < 524288) : ∀ k, k ≤ m → (∀ t, t < m → k ≤ t → v < f t) → ∃ a, insA f m v a ∧ a ≤ k ∧ ∀ R, XX true 5 195 69 [.ref 153, .int (nI p), .int (nI j), .int (nI F), .int (nI W), .int (nI w), .int (nI v), .int (nI (F + a)), ax_junk] [] (h1) (R) → XX true 5 195 43 [.ref 153, .int (nI p), .int (nI j), .int (nI F), .int (nI W), .int (nI w), .int (nI v), .int (nI (F + k)), ax_junk] [] (h1) (R) := by
  intro k
  induction k with
  | zero =>
    intro _ hk
    refine ⟨0, ⟨Nat.zero_le _, hk, Or.inl rfl⟩, Nat.le_refl _, fun R z => ?_⟩
    refine wb_X12_laysViews_43 ?_
    rw [if_pos (nI_le (by omega) (by omega))]
    exact wk_X12_laysViews_69 z
  | succ k ih =>
    intro hk hlt
    have fk := hf k (by omega)
    by_cases q : f k ≤ v
    · refine ⟨k + 1, ⟨hk, hlt, Or.inr q⟩, Nat.le_refl _, fun R z => ?_⟩
      refine wb_X12_laysViews_43 ?_
      rw [if_neg (fun y => by have := (nI_leI (by omega) (by omega)).mp y; omega), show nI 1 = nI (0 + 1) by rfl, nI_subI (by omega), ix_nI (by omega), show F + (k + 1) - (0 + 1) = F + k by omega, (s.2.2.1 k (by omega)).2]
      refine ⟨in_nI (by omega) (by decide), ?_⟩
      rw [if_pos (nI_le q (by omega))]
      exact wk_X12_laysViews_69 z
    · obtain ⟨a, ia, ak, g⟩ := ih (by omega) (fun t ht kt => by
        by_cases e : t = k
        · subst e; omega
        · exact hlt t ht (by omega))
      refine ⟨a, ia, by omega, fun R z => ?_⟩
      refine wb_X12_laysViews_43 ?_
      rw [if_neg (fun y => by have := (nI_leI (by omega) (by omega)).mp y; omega), nI_dec, show nI 1 = nI (0 + 1) by rfl, nI_subI (by omega), ix_nI (by omega), show F + (k + 1) - (0 + 1) = F + k by omega, (s.2.2.1 k (by omega)).2]
      refine ⟨in_nI (by omega) (by decide), ?_⟩
      rw [if_neg (fun y => q ((nI_leI (by omega) (by omega)).mp y))]
      exact g R z
/-- those behind it go one on, and it is put there -/
theorem sp_lv_put {p j F m W w v a : Nat} {f : Nat → Nat} {h1 : AH} (s : mV h j F m f h1) (hF : F + m < 9720) (ha : a ≤ m) : ∀ k, ∀ h2, fr [(162, none)] h1 h2 → (∀ t, t < a + k → t < m → hI h2 162 (F + t) = nI (f t)) → (∀ t, a + k < t → t ≤ m → hI h2 162 (F + t) = nI (f (t - 1))) → (∀ t, t < F → hI h2 162 t = hI h1 162 t) → a + k ≤ m → ∃ h3, mV h j F (m + 1) (insF f v a) h3 ∧ ∀ R, XX true 5 195 153 [.ref 153, .int (nI p), .int (nI j), .int (nI F), .int (nI W), .int (nI w), ax_junk, ax_junk, ax_junk] [] (h3) (R) → XX true 5 195 95 [.ref 153, .int (nI p), .int (nI j), .int (nI F), .int (nI W), .int (nI w), .int (nI v), .int (nI (F + a)), .int (nI (F + (a + k)))] [] (h2) (R) := by
  intro k
  induction k with
  | zero =>
    intro h2 f2 lo hi old _
    have e14 : hI h2 153 14 = nI (F + m) := (f2.I rfl).trans s.2.1
    refine ⟨ax_wr (ax_wr (ax_wr h2 162 (F + a) (.int (nI v))) 161 (F + m) (.int (nI j))) 153 14 (.int (nI (F + m + 1))), ⟨?_, ?_, fun t ht => ⟨?_, ?_⟩, fun t ht => ⟨?_, ?_⟩⟩, fun R z => ?_⟩
    · exact (((s.1.trans (f2.mono rfl)).wr' (by simp [inS])).wr' (by simp [inS])).wr' (by simp [inS])
    · rw [wr_I, Nat.add_assoc]
    · rw [wr_Ia (by decide)]
      by_cases q : t = m
      · subst q
        rw [wr_I]
      · rw [wr_Ij (by omega), wr_Ia (by decide), f2.I rfl]
        exact (s.2.2.1 t (by omega)).1
    · rw [wr_Ia (by decide), wr_Ia (by decide)]
      unfold insF
      by_cases q : t < a
      · rw [wr_Ij (by omega), if_pos q]
        exact lo t (by omega) (by omega)
      · rw [if_neg q]
        by_cases q2 : t = a
        · rw [q2, wr_I, if_pos rfl]
        · rw [wr_Ij (by omega), if_neg q2]
          exact hi t (by omega) (by omega)
    · rw [wr_Ia (by decide), wr_Ij (by omega), wr_Ia (by decide), f2.I rfl]
      exact (s.2.2.2 t ht).1
    · rw [wr_Ia (by decide), wr_Ia (by decide), wr_Ij (by omega), old t ht]
      exact (s.2.2.2 t ht).2
    · refine wb_X12_laysViews_95 ?_
      rw [Nat.add_zero, if_pos (nI_le (Nat.le_refl _) (by omega)), ix_nI (by omega)]
      have e1 : hI (ax_wr h2 162 (F + a) (.int (nI v))) 153 14 = nI (F + m) := by rw [wr_Ia (by decide), e14]
      rw [e1, ix_nI (by omega)]
      have e2 : hI (ax_wr (ax_wr h2 162 (F + a) (.int (nI v))) 161 (F + m) (.int (nI j))) 153 14 = nI (F + m) := by rw [wr_Ia (by decide), e1]
      rw [e2, nI_s]
      exact ⟨in_nI (by omega) (by decide), in_nI (by omega) (by decide), wk_X12_laysViews_153 z⟩
  | succ k ih =>
    intro h2 f2 lo hi old hk
    have e1 : hI h2 162 (F + (a + (k + 1)) - (0 + 1)) = nI (f (a + k)) := by
      rw [show F + (a + (k + 1)) - (0 + 1) = F + (a + k) by omega]
      exact lo (a + k) (by omega) (by omega)
    obtain ⟨h3, mv, g⟩ := ih (ax_wr h2 162 (F + (a + (k + 1))) (.int (nI (f (a + k))))) (f2.wr' (by simp [inS])) (fun t ht tm => by rw [wr_Ij (by omega)]; exact lo t (by omega) tm) (fun t ht tm => by
      by_cases q : t = a + (k + 1)
      · subst q
        rw [wr_I, show a + (k + 1) - 1 = a + k by omega]
      · rw [wr_Ij (by omega)]
        exact hi t (by omega) tm) (fun t ht => by rw [wr_Ij (by omega)]; exact old t ht) (by omega)
    refine ⟨h3, mv, fun R z => ?_⟩
    refine wb_X12_laysViews_95 ?_
    rw [if_neg (fun y => by have := (nI_leI (by omega) (by omega)).mp y; omega), nI_dec, show nI 1 = nI (0 + 1) by rfl, nI_subI (by omega), ix_nI (by omega), ix_nI (by omega), e1]
    refine ⟨in_nI (by omega) (by decide), in_nI (by omega) (by decide), ?_⟩
    rw [show F + (a + (k + 1)) - (0 + 1) = F + (a + k) by omega]
    exact g R z
theorem sp_laysViews (s : mS c n K P B h) {p j F : Nat} (hp : p < 3) (hj : j < n) (hF : hI h 153 14 = nI F) (hF2 : F + v_ways c K B j < 9720) : ∃ h' m f, XX true 5 195 0 [.ref 153, .int (nI p), .int (nI j), ax_junk, ax_junk, ax_junk, ax_junk, ax_junk, ax_junk] [] (h) (none, h') ∧ m ≤ v_ways c K B j ∧ enumS (vwQ c K P B p j (v_ways c K B j)) m f ∧ mV h j F m f h' := by
  have h6 := s.n6
  have wl := v_ways_le s.1 (Nat.le_of_lt hj)
  have lp : ∀ k w, w + k = v_ways c K B j → ∀ h1 m f, m ≤ w → enumS (vwQ c K P B p j w) m f → mV h j F m f h1 → ∃ h' m f, XX true 5 195 15 [.ref 153, .int (nI p), .int (nI j), .int (nI F), .int (nI (v_ways c K B j)), .int (nI w), ax_junk, ax_junk, ax_junk] [] (h1) ((none, h')) ∧ m ≤ v_ways c K B j ∧ enumS (vwQ c K P B p j (v_ways c K B j)) m f ∧ mV h j F m f h' := by
    intro k
    induction k with
    | zero =>
      intro w hw h1 m f hm e mv
      obtain rfl : w = v_ways c K B j := hw
      refine ⟨h1, m, f, ?_, hm, e, mv⟩
      refine wb_X12_laysViews_15 ?_
      rw [if_neg (nI_nlt (Nat.le_refl _) (by omega))]
    | succ k ih =>
      intro w hw h1 m f hm e mv
      have s1 : mS c n K P B h1 := s.fr mv.1 rfl
      obtain ⟨h2, r2, f2, o⟩ := sp_lays s1 (Nat.le_of_lt hj) (w := w) (by omega)
      have s2 : mS c n K P B h2 := s1.fr f2 rfl
      have mv2 := mv.fr f2
      have vl := v_vw_lt s.1 (j := j) (by omega) p w
      have fl : ∀ t, t < m → f t < 524288 := fun t ht => by
        obtain ⟨w', _, e'⟩ := e.2.1 t ht
        have := (v_vw_lt s.1 (j := j) (by omega) p w').2
        rw [e'] at this
        exact this
      obtain ⟨a, ia, am, g⟩ := sp_lv_at (p := p) (W := v_ways c K B j) (w := w) mv2 (by omega) vl.2 fl m (Nat.le_refl _) (fun t ht kt => absurd ht (by omega))
      have pre : ∀ R, XX true 5 195 69 [.ref 153, .int (nI p), .int (nI j), .int (nI F), .int (nI (v_ways c K B j)), .int (nI w), .int (nI (v_vw c K P B p j w)), .int (nI (F + a)), ax_junk] [] (h2) (R) → XX true 5 195 15 [.ref 153, .int (nI p), .int (nI j), .int (nI F), .int (nI (v_ways c K B j)), .int (nI w), ax_junk, ax_junk, ax_junk] [] (h1) (R) := by
        intro R z
        refine wb_X12_laysViews_15 ?_
        rw [if_pos (nI_lt (by omega) (by omega))]
        refine (cl_X12_laysViews_26 rfl (by decide) (r2)).mpr ?_
        refine wb_X12_laysViews_29 ?_
        refine (cl_X12_laysViews_32 rfl (by decide) (sp_viewOf s2 (Nat.le_of_lt hj) hp o (Nat.le_refl _))).mpr ?_
        refine wb_X12_laysViews_35 ?_
        rw [mv2.2.1]
        exact g R z
      have nxt : ∀ h3 R, XX true 5 195 15 [.ref 153, .int (nI p), .int (nI j), .int (nI F), .int (nI (v_ways c K B j)), .int (nI (w + 1)), ax_junk, ax_junk, ax_junk] [] (h3) (R) → XX true 5 195 153 [.ref 153, .int (nI p), .int (nI j), .int (nI F), .int (nI (v_ways c K B j)), .int (nI w), ax_junk, ax_junk, ax_junk] [] (h3) (R) := by
        intro h3 R z
        refine wb_X12_laysViews_153 ?_
        rw [nI_s]
        exact wk_X12_laysViews_15 z
      by_cases q : a = 0 ∨ f (a - 1) ≠ v_vw c K P B p j w
      · obtain ⟨h3, mv3, g3⟩ := sp_lv_put (p := p) (W := v_ways c K B j) (w := w) (v := v_vw c K P B p j w) mv2 (by omega) ia.1 (m - a) h2 fr.rfl' (fun t ht tm => (mv2.2.2.1 t tm).2) (fun t ht tm => absurd ht (by omega)) (fun t ht => rfl) (by omega)
        obtain ⟨h', m', f', r', x, y, z⟩ := ih (w + 1) (by omega) h3 (m + 1) _ (by omega) ((e.ins ia q).congr (vwQ_succ c K P B p j w)) mv3
        refine ⟨h', m', f', pre _ ?_, x, y, z⟩
        have go : XX true 5 195 89 [.ref 153, .int (nI p), .int (nI j), .int (nI F), .int (nI (v_ways c K B j)), .int (nI w), .int (nI (v_vw c K P B p j w)), .int (nI (F + a)), ax_junk] [] (h2) ((none, h')) := by
          refine wb_X12_laysViews_89 ?_
          rw [mv2.2.1, show F + m = F + (a + (m - a)) by have := ia.1; omega]
          exact g3 _ (nxt _ _ r')
        refine wb_X12_laysViews_69 ?_
        by_cases a0 : a = 0
        · rw [if_pos (congrArg nI (by omega))]
          exact wk_X12_laysViews_89 go
        · have h1 := mv2.2.2.1 (a - 1) (by have := ia.1; omega)
          have h2 := fl (a - 1) (by have := ia.1; omega)
          rw [if_neg (fun y => by have := (nI_eq (by have := ia.1; omega) (by omega)).mp y; omega), show nI 1 = nI (0 + 1) by rfl, nI_subI (by omega), ix_nI (by have := ia.1; omega), show F + a - (0 + 1) = F + (a - 1) by omega, h1.2]
          refine ⟨in_nI (by have := ia.1; omega) (by decide), ?_⟩
          rw [if_neg (fun y => by have := (nI_eq (by omega) (by omega)).mp y; exact (q.elim a0 (fun b => b this)))]
          exact wk_X12_laysViews_89 go
      · obtain ⟨h', m', f', r', x, y, z⟩ := ih (w + 1) (by omega) h2 m f (by omega) ((e.old ia q).congr (vwQ_succ c K P B p j w)) mv2
        refine ⟨h', m', f', pre _ ?_, x, y, z⟩
        have a0 : a ≠ 0 := fun z => q (Or.inl z)
        have fe : f (a - 1) = v_vw c K P B p j w := by
          by_cases z : f (a - 1) = v_vw c K P B p j w
          · exact z
          · exact absurd (Or.inr z) q
        have h1 := mv2.2.2.1 (a - 1) (by have := ia.1; omega)
        refine wb_X12_laysViews_69 ?_
        rw [if_neg (fun y => by have := (nI_eq (by have := ia.1; omega) (by omega)).mp y; omega), show nI 1 = nI (0 + 1) by rfl, nI_subI (by omega), ix_nI (by have := ia.1; omega), show F + a - (0 + 1) = F + (a - 1) by omega, h1.2]
        refine ⟨in_nI (by have := ia.1; omega) (by decide), ?_⟩
        rw [if_pos (congrArg nI fe)]
        exact wk_X12_laysViews_153 (nxt _ _ r')
  obtain ⟨h', m, f, r, x, y, z⟩ := lp _ 0 (Nat.zero_add _) h 0 id (Nat.le_refl _) (enumS.nil _ (fun x ⟨w, hw, _⟩ => Nat.not_lt_zero _ hw)) ⟨fr.rfl', hF, fun t ht => absurd ht (Nat.not_lt_zero _), fun t _ => ⟨rfl, rfl⟩⟩
  refine ⟨h', m, f, ?_, x, y, z⟩
  refine wb_X12_laysViews_0 ?_
  refine (cl_X12_laysViews_7 rfl (by decide) (sp_waysBehind s (Nat.le_of_lt hj))).mpr ?_
  refine wb_X12_laysViews_10 ?_
  rw [hF]
  exact wk_X12_laysViews_15 r
/-- the sets of a player lie there -/
def mSets (c n : Nat) (K P B : Nat → Nat) (p : Nat) (h : AH) : Prop := hI h 153 14 = nI (v_sM c n K P B p) ∧ ∀ t, t < v_sM c n K P B p → hI h 161 t = nI (v_sJ c n K P B p t) ∧ hI h 162 t = nI (v_sV c n K P B p t)
theorem mSets.fr {p : Nat} (s : mSets c n K P B p h) {L : List (Nat × Option Nat)} (f : fr L h h') (q1 : ∀ j, inS L 161 j = false) (q2 : ∀ j, inS L 162 j = false) (q3 : inS L 153 14 = false) : mSets c n K P B p h' := ⟨(f.I q3).trans s.1, fun t ht => ⟨(f.I (q1 t)).trans (s.2 t ht).1, (f.I (q2 t)).trans (s.2 t ht).2⟩⟩
theorem sp_laysSets (s : mS c n K P B h) {p : Nat} (hp : p < 3) : ∃ h', XX true 6 194 0 [.ref 153, .int (nI p), ax_junk] [] (h) (none, h') ∧ fr frS h h' ∧ mSets c n K P B p h' := by
  have h6 := s.n6
  have lp : ∀ k j, j + k = n → ∀ h1 F g, fr frS h h1 → F ≤ setB c K P B p j → enumS (setQ c K P B p j) F g → hI h1 153 14 = nI F → (∀ t, t < F → hI h1 161 t = nI (g t / 524288) ∧ hI h1 162 t = nI (g t % 524288)) → ∃ h' F g, XX true 6 194 7 [.ref 153, .int (nI p), .int (nI j)] [] (h1) ((none, h')) ∧ fr frS h h' ∧ enumS (setQ c K P B p n) F g ∧ hI h' 153 14 = nI F ∧ ∀ t, t < F → hI h' 161 t = nI (g t / 524288) ∧ hI h' 162 t = nI (g t % 524288) := by
    intro k
    induction k with
    | zero =>
      intro j hj h1 F g f hF e c14 cl
      obtain rfl : j = n := hj
      refine ⟨h1, F, g, ?_, f, e, c14, cl⟩
      have s1 : mS c j K P B h1 := s.fr f rfl
      refine wb_X12_laysSets_7 ?_
      rw [s1.nn, if_neg (nI_nlt (Nat.le_refl _) (by omega))]
    | succ k ih =>
      intro j hj h1 F g f hF e c14 cl
      have s1 : mS c n K P B h1 := s.fr f rfl
      have ok := s.ok (i := j) (by omega)
      have F8 : F ≤ 806 := Nat.le_trans hF (Nat.le_trans (setB_le1 s.1 p j (by omega)) (v_c8 j (by omega)))
      have wl := v_ways_le s.1 (j := j) (by omega)
      have nxt : ∀ h2 R, XX true 6 194 7 [.ref 153, .int (nI p), .int (nI (j + 1))] [] (h2) (R) → XX true 6 194 43 [.ref 153, .int (nI p), .int (nI j)] [] (h2) (R) := by
        intro h2 R z
        refine wb_X12_laysSets_43 ?_
        rw [nI_s]
        exact z
      have sb : setB c K P B p (j + 1) = setB c K P B p j + (if picks K P p j then v_ways c K B j else 0) := rfl
      have pre : ∀ R, (picks K P p j → XX true 6 194 40 [.ref 153, .int (nI p), .int (nI j)] [.int (nI j), .int (nI p), .ref 153] (h1) (R)) → (¬ picks K P p j → XX true 6 194 43 [.ref 153, .int (nI p), .int (nI j)] [] (h1) (R)) → XX true 6 194 7 [.ref 153, .int (nI p), .int (nI j)] [] (h1) (R) := by
        intro R a b
        refine wb_X12_laysSets_7 ?_
        rw [s1.nn, if_pos (nI_lt (by omega) (by omega)), ix_nI (by omega), s1.KK (by omega)]
        refine ⟨in_nI (by omega) (by decide), ?_⟩
        refine (cl_X12_laysSets_21 rfl (by decide) (sp_isChoice (by omega) h1)).mpr ?_
        refine wb_X12_laysSets_24 ?_
        by_cases q : isChc (K j)
        · rw [b2i_t q, if_neg (by decide), ix_nI (by omega), s1.PP (by omega)]
          refine ⟨in_nI (by omega) (by decide), ?_⟩
          by_cases q2 : P j = p
          · rw [if_pos (congrArg nI q2)]
            exact a ⟨q, q2⟩
          · rw [if_neg (fun y => q2 ((nI_eq (by omega) (by omega)).mp y))]
            exact b (fun y => q2 y.2)
        · rw [b2i_f q, if_pos rfl]
          exact b (fun y => q y.1)
      by_cases q : picks K P p j
      · obtain ⟨h2, m, fv, r2, hm, e2, mv⟩ := sp_laysViews s1 hp (j := j) (by omega) c14 (by omega)
        have f2 := f.trans mv.1
        have gq : ∀ x, setQ c K P B p j x → x < j * 524288 := fun x hx => setQ_lt s.1 (by omega) hx
        rw [if_pos q] at sb
        obtain ⟨h', F', g', r', x, y, z, u⟩ := ih (j + 1) (by omega) h2 (F + m) (appF F (j * 524288) g fv) f2 (by omega) ((e.app e2 gq).congr (setQ_more q)) mv.2.1 (fun t ht => by
          unfold appF
          by_cases t1 : t < F
          · rw [if_pos t1]
            have a := mv.2.2.2 t t1
            have b := cl t t1
            exact ⟨a.1.trans b.1, a.2.trans b.2⟩
          · rw [if_neg t1]
            have a := mv.2.2.1 (t - F) (by omega)
            rw [show F + (t - F) = t by omega] at a
            have vl : fv (t - F) < 524288 := by
              obtain ⟨w', _, e'⟩ := e2.2.1 (t - F) (by omega)
              have := (v_vw_lt s.1 (j := j) (by omega) p w').2
              rw [e'] at this
              exact this
            rw [show (j * 524288 + fv (t - F)) / 524288 = j by omega, show (j * 524288 + fv (t - F)) % 524288 = fv (t - F) by omega]
            exact a)
        refine ⟨h', F', g', pre _ (fun _ => ?_) (fun z => absurd q z), x, y, z, u⟩
        refine (cl_X12_laysSets_40 rfl (by decide) (r2)).mpr ?_
        exact nxt _ _ r'
      · rw [if_neg q] at sb
        obtain ⟨h', F', g', r', x, y, z, u⟩ := ih (j + 1) (by omega) h1 F g f (by omega) (e.congr (setQ_skip q)) c14 cl
        exact ⟨h', F', g', pre _ (fun z => absurd z q) (fun _ => nxt _ _ r'), x, y, z, u⟩
  obtain ⟨h', F, g, r, f, e, c14, cl⟩ := lp n 0 (by omega) (ax_wr h 153 14 (.int (nI 0))) 0 id (fr.wr rfl) (Nat.le_refl _) (enumS.nil _ (fun x ⟨j, v, hj, _⟩ => Nat.not_lt_zero _ hj)) (wr_I _ _ _ _) (fun t ht => absurd ht (Nat.not_lt_zero _))
  refine ⟨h', ?_, f, ?_⟩
  · refine wb_X12_laysSets_0 ?_
    exact r
  · have u := e.eq (v_sets_ok s.1 p).2
    refine ⟨by rw [c14, u.1], fun t ht => ?_⟩
    have ht' : t < F := by rw [u.1]; exact ht
    have := cl t ht'
    rw [u.2 t ht'] at this
    exact this
theorem sp_setAt (s : mS c n K P B h) {p : Nat} (z : mSets c n K P B p h) {t0 : Nat} (ht0 : t0 < v_sM c n K P B p) {j v : Nat} (ej : v_sJ c n K P B p t0 = j) (ev : v_sV c n K P B p t0 = v) : XX true 1 218 0 [.ref 153, .int (nI j), .int (nI v), ax_junk] [] (h) (some (.int (nI t0)), h) := by
  have m8 := v_sM_le s.1 p
  have h6 := s.n6
  have jl := (v_set_is s.1 ht0).1
  have vl := v_sV_lt c n K P B p t0
  have lp : ∀ k t, t + k = t0 → XX true 1 218 2 [.ref 153, .int (nI j), .int (nI v), .int (nI t)] [] (h) ((some (.int (nI t0)), h)) := by
    intro k
    induction k with
    | zero =>
      intro t ht
      obtain rfl : t = t0 := ht
      refine wb_X12_setAt_2 ?_
      rw [z.1, if_pos (nI_lt ht0 (by omega)), ix_nI (by omega), (z.2 t ht0).1, (z.2 t ht0).2, if_pos (congrArg nI ej), if_pos (congrArg nI ev)]
      exact ⟨in_nI (by omega) (by decide), in_nI (by omega) (by decide), rfl⟩
    | succ k ih =>
      intro t ht
      have tj := (v_set_is s.1 (p := p) (t := t) (by omega)).1
      have tv := v_sV_lt c n K P B p t
      have nx : XX true 1 218 32 [.ref 153, .int (nI j), .int (nI v), .int (nI t)] [] (h) ((some (.int (nI t0)), h)) := by
        refine wb_X12_setAt_32 ?_
        rw [nI_s]
        exact ih (t + 1) (by omega)
      refine wb_X12_setAt_2 ?_
      rw [z.1, if_pos (nI_lt (by omega) (by omega)), ix_nI (by omega), (z.2 t (by omega)).1, (z.2 t (by omega)).2]
      refine ⟨in_nI (by omega) (by decide), ?_⟩
      by_cases q : v_sJ c n K P B p t = j
      · rw [if_pos (congrArg nI q)]
        refine ⟨in_nI (by omega) (by decide), ?_⟩
        rw [if_neg (fun y => by
          have y1 := (nI_eq (by omega) (by omega)).mp y
          have := v_set_inj s.1 (p := p) (t := t) (t' := t0) (by omega) ht0 (by rw [q, ej]) (by rw [y1, ev])
          omega)]
        exact nx
      · rw [if_neg (fun y => q ((nI_eq (by omega) (by omega)).mp y))]
        exact nx
  refine wb_X12_setAt_0 ?_
  exact lp t0 0 (by omega)
/-- in how many ways a player can choose at the first sets; stays where it is too much -/
noncomputable def v_much (c n : Nat) (K P B : Nat → Nat) (p : Nat) : Nat → Nat
  | 0 => 1
  | t + 1 => if v_much c n K P B p t ≤ 729 then v_much c n K P B p t * B (v_sJ c n K P B p t) else v_much c n K P B p t
theorem v_much_stay {p t : Nat} (q : ¬ v_much c n K P B p t ≤ 729) : ∀ k, v_much c n K P B p (t + k) = v_much c n K P B p t
  | 0 => rfl
  | k + 1 => by
    show (if v_much c n K P B p (t + k) ≤ 729 then _ else v_much c n K P B p (t + k)) = _
    rw [v_much_stay q k, if_neg q]
theorem v_setB {p t : Nat} (s : okS c n K P B) (ht : t < v_sM c n K P B p) : B (v_sJ c n K P B p t) = 2 ∨ B (v_sJ c n K P B p t) = 3 := by
  have := v_set_is s ht
  have ok := s.2.2.2 _ this.1
  have q := this.2.1.1
  exact ok.2.2.1 (by omega)
theorem v_much_le {p : Nat} (s : okS c n K P B) : ∀ t, t ≤ v_sM c n K P B p → 1 ≤ v_much c n K P B p t ∧ v_much c n K P B p t ≤ 2187
  | 0, _ => ⟨Nat.le_refl _, by show 1 ≤ 2187; decide⟩
  | t + 1, ht => by
    have ih := v_much_le (p := p) s t (by omega)
    have hb := v_setB s (p := p) (t := t) (by omega)
    show 1 ≤ (if v_much c n K P B p t ≤ 729 then v_much c n K P B p t * B (v_sJ c n K P B p t) else v_much c n K P B p t) ∧ (if v_much c n K P B p t ≤ 729 then v_much c n K P B p t * B (v_sJ c n K P B p t) else v_much c n K P B p t) ≤ 2187
    split
    · rcases hb with e | e <;> rw [e] <;> omega
    · omega
theorem sp_isMuch (s : mS c n K P B h) {p : Nat} (hp : p < 3) : ∃ h', XX true 7 215 0 [.ref 153, .int (nI p), ax_junk, ax_junk] [] (h) (some (.int (b2i (729 < v_much c n K P B p (v_sM c n K P B p)))), h') ∧ fr frS h h' ∧ mSets c n K P B p h' := by
  have m8 := v_sM_le s.1 p
  have h6 := s.n6
  obtain ⟨h', r, f, z⟩ := sp_laysSets s hp
  have s' : mS c n K P B h' := s.fr f rfl
  have fin : ∀ t, v_much c n K P B p t = v_much c n K P B p (v_sM c n K P B p) → t ≤ v_sM c n K P B p → XX true 7 215 44 [ax_junk, ax_junk, .int (nI (v_much c n K P B p t)), ax_junk] [] (h') ((some (.int (b2i (729 < v_much c n K P B p (v_sM c n K P B p)))), h')) := by
    intro t e ht
    have le := v_much_le s.1 t ht
    rw [e] at le ⊢
    refine wb_X12_isMuch_44 ?_
    by_cases q : v_much c n K P B p (v_sM c n K P B p) ≤ 729
    · rw [if_pos (nI_le q (by omega)), b2i_f (by omega)]
    · rw [if_neg (fun y => q ((nI_leI (by omega) (by omega)).mp y)), b2i_t (by omega)]
  have lp : ∀ k t, t + k = v_sM c n K P B p → XX true 7 215 9 [.ref 153, ax_junk, .int (nI (v_much c n K P B p t)), .int (nI t)] [] (h') ((some (.int (b2i (729 < v_much c n K P B p (v_sM c n K P B p)))), h')) := by
    intro k
    induction k with
    | zero =>
      intro t ht
      have e : t = v_sM c n K P B p := ht
      refine wb_X12_isMuch_9 ?_
      rw [z.1, if_neg (nI_nlt (by omega) (by omega))]
      exact wk_X12_isMuch_44 (fin t (by rw [e]) (by omega))
    | succ k ih =>
      intro t ht
      have le := v_much_le s.1 (p := p) t (by omega)
      have si := v_set_is s.1 (p := p) (t := t) (by omega)
      have nx := ih (t + 1) (by omega)
      have e1 : v_much c n K P B p (t + 1) = if v_much c n K P B p t ≤ 729 then v_much c n K P B p t * B (v_sJ c n K P B p t) else v_much c n K P B p t := rfl
      refine wb_X12_isMuch_9 ?_
      rw [z.1, if_pos (nI_lt (by omega) (by omega)), ix_nI (by omega), (z.2 t (by omega)).1, ix_nI (by omega), s'.BB si.1, nI_mulI, nI_s]
      by_cases q : v_much c n K P B p t ≤ 729
      · rw [if_pos (nI_le q (by omega))]
        rw [e1, if_pos q] at nx
        exact ⟨in_nI (by omega) (by decide), in_nI (by omega) (by decide), nx⟩
      · rw [if_neg (fun y => q ((nI_leI (by omega) (by omega)).mp y))]
        exact wk_X12_isMuch_44 (fin t (by rw [← ht]; exact (v_much_stay q (k + 1)).symm) (by omega))
  refine ⟨h', ?_, f, z⟩
  refine wb_X12_isMuch_0 ?_
  refine (cl_X12_isMuch_2 rfl (by decide) (r)).mpr ?_
  refine wb_X12_isMuch_5 ?_
  exact wk_X12_isMuch_9 (lp _ 0 (Nat.zero_add _))
end S28
