/-! THE CLASS: a set is found; recall -/
section S65
variable {c n np : Nat} {K P B S T C : Nat → Nat} {h h' : AH}
theorem v_set_lt {p a b : Nat} (s : okS c n K P B) (hab : a < b) (hb : b < v_sM c n K P B p) : v_sJ c n K P B p a < v_sJ c n K P B p b ∨ (v_sJ c n K P B p a = v_sJ c n K P B p b ∧ v_sV c n K P B p a < v_sV c n K P B p b) := by
  have e := (v_sets_ok s p).2.1 a b hab hb
  show (v_sets c n K P B p).2 a / 524288 < (v_sets c n K P B p).2 b / 524288 ∨ ((v_sets c n K P B p).2 a / 524288 = (v_sets c n K P B p).2 b / 524288 ∧ (v_sets c n K P B p).2 a % 524288 < (v_sets c n K P B p).2 b % 524288)
  omega
theorem sp_sfind (s : okS c n K P B) {p : Nat} (z : cSets c n K P B p h) {t0 : Nat} (ht0 : t0 < v_sM c n K P B p) : XX true 1 71 0 [.ref 123, .int (nI (v_sJ c n K P B p t0)), .int (nI (v_sV c n K P B p t0)), ax_junk, ax_junk, ax_junk] [] (h) (some (.int (nI t0)), h) := by
  have m8 := v_sM_le s p
  have n6 := s.2.2.1
  have jt : ∀ t, t < v_sM c n K P B p → v_sJ c n K P B p t < 6 := fun t ht => by have := (v_set_is s ht).1; omega
  have vt : ∀ t, v_sV c n K P B p t < 524288 := v_sV_lt c n K P B p
  have lp : ∀ f lo hi, hi - lo ≤ f → lo ≤ t0 → t0 ≤ hi → hi ≤ v_sM c n K P B p → XX true 1 71 8 [.ref 123, .int (nI (v_sJ c n K P B p t0)), .int (nI (v_sV c n K P B p t0)), .int (nI lo), .int (nI hi), ax_junk] [] (h) ((some (.int (nI t0)), h)) := by
    intro f
    induction f with
    | zero =>
      intro lo hi hf h1 h2 h3
      obtain rfl : lo = t0 := by omega
      have zt := z.2 lo ht0
      refine wb_X5_find_8 ?_
      rw [if_neg (nI_nlt (by omega) (by omega)), z.1, if_pos (nI_lt ht0 (by omega)), ix_nI (by omega), zt.1, zt.2.1, if_pos rfl, if_pos rfl]
      exact ⟨in_nI (by omega) (by decide), in_nI (by omega) (by decide), rfl⟩
    | succ f ih =>
      intro lo hi hf h1 h2 h3
      by_cases q : lo < hi
      · have zt := z.2 ((lo + hi) / 2) (by omega)
        have j1 := jt ((lo + hi) / 2) (by omega)
        have j2 := jt t0 ht0
        have v1 := vt ((lo + hi) / 2)
        have v2 := vt t0
        have g55 : (lo + hi) / 2 < t0 → XX true 1 71 55 [.ref 123, .int (nI (v_sJ c n K P B p t0)), .int (nI (v_sV c n K P B p t0)), ax_junk, .int (nI hi), .int (nI ((lo + hi) / 2))] [] (h) ((some (.int (nI t0)), h)) := by
          intro y
          refine wb_X5_find_55 ?_
          rw [nI_s]
          refine wb_X5_find_67 ?_
          exact ih _ _ (by omega) (by omega) h2 h3
        have g63 : t0 ≤ (lo + hi) / 2 → XX true 1 71 63 [.ref 123, .int (nI (v_sJ c n K P B p t0)), .int (nI (v_sV c n K P B p t0)), .int (nI lo), ax_junk, .int (nI ((lo + hi) / 2))] [] (h) ((some (.int (nI t0)), h)) := by
          intro y
          refine wb_X5_find_63 ?_
          refine wb_X5_find_67 ?_
          exact ih _ _ (by omega) h1 y (by omega)
        refine wb_X5_find_8 ?_
        rw [if_pos (nI_lt q (by omega)), nI_add, nI_divI (by omega) (by omega), ix_nI (by omega), zt.1, zt.2.1]
        refine ⟨by decide, in_nI (by omega) (by decide), ?_⟩
        by_cases y : (lo + hi) / 2 < t0
        · have lt := v_set_lt s y ht0
          by_cases x : v_sJ c n K P B p ((lo + hi) / 2) < v_sJ c n K P B p t0
          · rw [if_pos (nI_lt x (by omega))]
            exact g55 y
          · have lt2 := lt.resolve_left x
            rw [if_neg (nI_nlt (by omega) (by omega)), if_pos (congrArg nI lt2.1), if_pos (nI_lt lt2.2 (by omega))]
            exact ⟨in_nI (by omega) (by decide), in_nI (by omega) (by decide), g55 y⟩
        · have y' : t0 ≤ (lo + hi) / 2 := by omega
          have le : v_sJ c n K P B p t0 < v_sJ c n K P B p ((lo + hi) / 2) ∨ (v_sJ c n K P B p t0 = v_sJ c n K P B p ((lo + hi) / 2) ∧ v_sV c n K P B p t0 ≤ v_sV c n K P B p ((lo + hi) / 2)) := by
            by_cases e : t0 = (lo + hi) / 2
            · rw [← e]
              exact Or.inr ⟨rfl, Nat.le_refl _⟩
            · exact (v_set_lt s (show t0 < (lo + hi) / 2 by omega) (by omega)).imp id (fun z => ⟨z.1, Nat.le_of_lt z.2⟩)
          rw [if_neg (nI_nlt (by omega) (by omega))]
          refine ⟨in_nI (by omega) (by decide), ?_⟩
          by_cases x : v_sJ c n K P B p ((lo + hi) / 2) = v_sJ c n K P B p t0
          · have le2 := le.resolve_left (by omega)
            rw [if_pos (congrArg nI x), if_neg (nI_nlt le2.2 (by omega))]
            exact ⟨in_nI (by omega) (by decide), g63 y'⟩
          · rw [if_neg (fun w => x ((nI_eq (by omega) (by omega)).mp w))]
            exact g63 y'
      · exact ih lo hi (by omega) h1 h2 h3
  refine wb_X5_find_0 ?_
  rw [z.1]
  exact lp (v_sM c n K P B p) 0 _ (by omega) (Nat.zero_le _) (by omega) (Nat.le_refl _)
/-- the same set, the same past -/
def v_agr (c : Nat) (K P B : Nat → Nat) (p i j : Nat) : Prop := ∀ w w', w < v_ways c K B j → w' < v_ways c K B j → v_vw c K P B p j w = v_vw c K P B p j w' → v_pv c K P B p j w i = v_pv c K P B p j w' i ∧ v_what c K B j w i = v_what c K B j w' i
theorem v_agr_rec {p : Nat} : v_rec c n K P B p ↔ ∀ j, j < n → ∀ i, i < j → picks K P p i → picks K P p j → v_agr c K P B p i j := by
  constructor
  · intro r j hj i hi q1 q2 w w' hw hw' e
    exact r j hj q2 _ w w' hw hw' e rfl i hi q1
  · intro r j hj q2 v w w' hw hw' e1 e2 i hi q1
    exact r j hj i hi q1 q2 w w' hw hw' (e1.trans e2.symm)
/-- what is known of the past of each set -/
def cPast (c n : Nat) (K P B : Nat → Nat) (p i j w : Nat) (h : AH) : Prop := ∀ t, t < v_sM c n K P B p → (hI h 128 t = -nI 1 ∧ ∀ w', w' < w → ¬ (v_sJ c n K P B p t = j ∧ v_sV c n K P B p t = v_vw c K P B p j w')) ∨ ∃ w0, w0 < w ∧ (v_sJ c n K P B p t = j ∧ v_sV c n K P B p t = v_vw c K P B p j w0) ∧ hI h 128 t = nI (v_pv c K P B p j w0 i * 4 + v_what c K B j w0 i) ∧ ∀ w', w' < w → (v_sJ c n K P B p t = j ∧ v_sV c n K P B p t = v_vw c K P B p j w') → v_pv c K P B p j w' i = v_pv c K P B p j w0 i ∧ v_what c K B j w' i = v_what c K B j w0 i
theorem sp_isRecalled (s : tS 0 c n K P B S h) {p i j : Nat} (hp : p < 3) (hj : j < n) (hi : i < j) (q1 : picks K P p i) (q2 : picks K P p j) (z : cSets c n K P B p h) : ∃ h' r, XX true 3 70 0 [.ref 123, .ref 66, .int (nI p), .int (nI i), .int (nI j), ax_junk, ax_junk, ax_junk] [] (h) (some (.int (r)), h') ∧ fr [(86, none), (128, none)] h h' ∧ ((r = nI 1 ∧ v_agr c K P B p i j) ∨ (r = nI 0 ∧ ¬ v_agr c K P B p i j)) := by
  have h6 := s.n6
  have m8 := v_sM_le s.ok p
  have wl := v_ways_le s.ok (j := j) (by omega)
  have c3 : ∀ w, v_what c K B j w i < 4 := by
    intro w
    rw [v_what_pre c K B j w i hi]
    have oc := chc_opt s.ok (j := i) (by omega) q1.1
    unfold v_evt
    rw [if_neg (fun z => by rcases q1.1 with q | q <;> rcases z with z | z <;> omega)]
    have := Nat.mod_lt (v_pre c K B j w (i + 1)) (show 0 < v_opt c K B i by omega)
    omega
  have pvl : ∀ w, v_pv c K P B p j w i < 524288 := fun w => v_pv_lt s.ok (j := j) (by omega) (by omega) p w
  -- the ways
  have lp : ∀ k w, w + k = v_ways c K B j → ∀ h1, fr [(86, none), (128, none)] h h1 → cPast c n K P B p i j w h1 → ∃ h' r, XX true 3 70 29 [.ref 123, .ref 66, .int (nI p), .int (nI i), .int (nI j), .int (nI w), ax_junk, ax_junk] [] (h1) ((some (.int r), h')) ∧ fr [(86, none), (128, none)] h h' ∧ ((r = nI 1 ∧ v_agr c K P B p i j) ∨ (r = nI 0 ∧ ¬ v_agr c K P B p i j)) := by
    intro k
    induction k with
    | zero =>
      intro w hw h1 f pa
      obtain rfl : w = v_ways c K B j := hw
      have s1 : tS 0 c n K P B S h1 := s.fr f rfl rfl
      refine ⟨h1, nI 1, ?_, f, Or.inl ⟨rfl, fun w w' hw hw' e => ?_⟩⟩
      · refine wb_X5_isRecalled_29 ?_
        rw [ix_nI (by omega), s1.beh j (by omega), if_neg (nI_nlt (Nat.le_refl _) (by omega))]
        exact ⟨in_nI (by omega) (by decide), rfl⟩
      · obtain ⟨t, ht, e1, e2⟩ := v_set_ex s.ok hj q2 hw
        rcases pa t ht with ⟨_, no⟩ | ⟨w0, _, _, _, al⟩
        · exact absurd ⟨e1, e2⟩ (no w hw)
        · have a1 := al w hw ⟨e1, e2⟩
          have a2 := al w' hw' ⟨e1, e2.trans e⟩
          exact ⟨a1.1.trans a2.1.symm, a1.2.trans a2.2.symm⟩
    | succ k ih =>
      intro w hw h1 f pa
      have s1 : tS 0 c n K P B S h1 := s.fr f rfl rfl
      have z1 : cSets c n K P B p h1 := cSets_fr z f rfl
      obtain ⟨h2, r2, f2, x2⟩ := sp_sightOf s1 hp (j := j) (by omega) (w := w) (by omega)
      have s2 : tS 0 c n K P B S h2 := s1.fr f2 rfl rfl
      have z2 : cSets c n K P B p h2 := cSets_fr z1 f2 rfl
      obtain ⟨t, ht, e1, e2⟩ := v_set_ex s.ok hj q2 (w := w) (by omega)
      have pa2 : hI h2 128 t = hI h1 128 t := f2.I rfl
      have fnd := sp_sfind s.ok z2 ht
      rw [e1, e2] at fnd
      have sgt := sp_sight s2 (j := i) (p := p) (by omega) hp x2 (by omega)
      have pre : ∀ R, XX true 3 70 72 [.ref 123, .ref 66, .int (nI p), .int (nI i), .int (nI j), .int (nI w), .int (nI t), ax_junk] [.int (nI (v_pv c K P B p j w i))] (h2) (R) → XX true 3 70 29 [.ref 123, .ref 66, .int (nI p), .int (nI i), .int (nI j), .int (nI w), ax_junk, ax_junk] [] (h1) (R) := by
        intro R u
        refine wb_X5_isRecalled_29 ?_
        rw [ix_nI (by omega), s1.beh j (by omega), if_pos (nI_lt (by omega) (by omega))]
        refine ⟨in_nI (by omega) (by decide), ?_⟩
        refine cl_X5_isRecalled_50 rfl (by decide) (r2) ?_
        refine cl_X5_isRecalled_53 rfl (by decide) (fnd) ?_
        refine wb_X5_isRecalled_56 ?_
        rw [if_neg (nI_n0 (by omega))]
        refine cl_X5_isRecalled_69 rfl (by decide) (sgt) ?_
        exact u
      have cl : ∀ w', v_pv c K P B p j w' i * 4 + v_what c K B j w' i < 2 ^ 31 := fun w' => by have := pvl w'; have := c3 w'; omega
      have nxt : ∀ h3 R, XX true 3 70 29 [.ref 123, .ref 66, .int (nI p), .int (nI i), .int (nI j), .int (nI (w + 1)), ax_junk, ax_junk] [] (h3) (R) → XX true 3 70 117 [.ref 123, .ref 66, .int (nI p), .int (nI i), .int (nI j), .int (nI w), ax_junk, ax_junk] [] (h3) (R) := by
        intro h3 R u
        refine wb_X5_isRecalled_117 ?_
        rw [nI_s]
        exact u
      have g72 : ∀ R, (hI h2 128 t = -nI 1 → XX true 3 70 103 [.ref 123, .ref 66, .int (nI p), .int (nI i), .int (nI j), .int (nI w), .int (nI t), .int (nI (v_pv c K P B p j w i * 4 + v_what c K B j w i))] [] (ax_wr h2 128 t (.int (nI (v_pv c K P B p j w i * 4 + v_what c K B j w i)))) (R)) → (hI h2 128 t ≠ -nI 1 → XX true 3 70 103 [.ref 123, .ref 66, .int (nI p), .int (nI i), .int (nI j), .int (nI w), .int (nI t), .int (nI (v_pv c K P B p j w i * 4 + v_what c K B j w i))] [] (h2) (R)) → XX true 3 70 72 [.ref 123, .ref 66, .int (nI p), .int (nI i), .int (nI j), .int (nI w), .int (nI t), ax_junk] [.int (nI (v_pv c K P B p j w i))] (h2) (R) := by
        intro R u1 u2
        refine wb_X5_isRecalled_72 ?_
        rw [ix_nI (by omega), ix_nI (by omega), x2 i hi, nI_mulI, nI_add]
        refine ⟨in_nI (by omega) (by decide), in_nI (by omega) (by decide), ?_⟩
        by_cases y : hI h2 128 t = -nI 1
        · rw [if_pos y]
          exact ⟨in_nI (by omega) (by decide), u1 y⟩
        · rw [if_neg y]
          exact u2 y
      rcases pa t ht with ⟨no1, no⟩ | ⟨w0, hw0, ew0, ev, al⟩
      · -- the first way of its set
        obtain ⟨h', r, x, y⟩ := ih (w + 1) (by omega) (ax_wr h2 128 t (.int (nI (v_pv c K P B p j w i * 4 + v_what c K B j w i)))) ((f.trans (f2.mono rfl)).wr' (by simp [inS])) (fun t' ht' => by
          by_cases et : t' = t
          · rw [et]
            refine Or.inr ⟨w, by omega, ⟨e1, e2⟩, wr_I _ _ _ _, fun w' hw' q => ?_⟩
            by_cases ew : w' = w
            · rw [ew]; exact ⟨rfl, rfl⟩
            · exact absurd q (no w' (by omega))
          · rw [wr_Ij et, f2.I rfl]
            have nw : ¬ (v_sJ c n K P B p t' = j ∧ v_sV c n K P B p t' = v_vw c K P B p j w) := fun q => et (v_set_inj s.ok ht' ht (q.1.trans e1.symm) (q.2.trans e2.symm))
            rcases pa t' ht' with ⟨a1, a2⟩ | ⟨w0, b1, b2, b3, b4⟩
            · exact Or.inl ⟨a1, fun w' hw' q => by
                by_cases ew : w' = w
                · exact nw (by rw [← ew]; exact q)
                · exact a2 w' (by omega) q⟩
            · exact Or.inr ⟨w0, by omega, b2, b3, fun w' hw' q => by
                by_cases ew : w' = w
                · exact absurd (by rw [← ew]; exact q) nw
                · exact b4 w' (by omega) q⟩)
        refine ⟨h', r, pre _ (g72 _ (fun _ => ?_) (fun y => absurd (pa2.trans no1) y)), y⟩
        refine wb_X5_isRecalled_103 ?_
        rw [ix_nI (by omega), wr_I, if_pos rfl]
        exact ⟨in_nI (by omega) (by decide), nxt _ _ x⟩
      · have n1 : hI h2 128 t ≠ -nI 1 := by
          rw [pa2, ev]
          exact nI_ne1 (cl w0)
        by_cases ag : v_pv c K P B p j w i = v_pv c K P B p j w0 i ∧ v_what c K B j w i = v_what c K B j w0 i
        · obtain ⟨h', r, x, y⟩ := ih (w + 1) (by omega) h2 (f.trans (f2.mono rfl)) (fun t' ht' => by
            rw [f2.I rfl]
            by_cases et : t' = t
            · rw [et]
              refine Or.inr ⟨w0, by omega, ew0, ev, fun w' hw' q => ?_⟩
              by_cases ew : w' = w
              · rw [ew]; exact ag
              · exact al w' (by omega) q
            · have nw : ¬ (v_sJ c n K P B p t' = j ∧ v_sV c n K P B p t' = v_vw c K P B p j w) := fun q => et (v_set_inj s.ok ht' ht (q.1.trans e1.symm) (q.2.trans e2.symm))
              rcases pa t' ht' with ⟨a1, a2⟩ | ⟨w0, b1, b2, b3, b4⟩
              · exact Or.inl ⟨a1, fun w' hw' q => by
                  by_cases ew : w' = w
                  · exact nw (by rw [← ew]; exact q)
                  · exact a2 w' (by omega) q⟩
              · exact Or.inr ⟨w0, by omega, b2, b3, fun w' hw' q => by
                  by_cases ew : w' = w
                  · exact absurd (by rw [← ew]; exact q) nw
                  · exact b4 w' (by omega) q⟩)
          refine ⟨h', r, pre _ (g72 _ (fun y => absurd y n1) (fun _ => ?_)), y⟩
          refine wb_X5_isRecalled_103 ?_
          rw [ix_nI (by omega), pa2, ev, if_pos (by rw [ag.1, ag.2])]
          exact ⟨in_nI (by omega) (by decide), nxt _ _ x⟩
        · refine ⟨h2, nI 0, pre _ (g72 _ (fun y => absurd y n1) (fun _ => ?_)), f.trans (f2.mono rfl), Or.inr ⟨rfl, fun y => ag ?_⟩⟩
          · have c1 := c3 w
            have c2 := c3 w0
            refine wb_X5_isRecalled_103 ?_
            rw [ix_nI (by omega), pa2, ev, if_neg (fun y => ag (by
              have := (nI_eq (cl w0) (cl w)).mp y
              omega))]
            exact ⟨in_nI (by omega) (by decide), rfl⟩
          · exact y w w0 (by omega) (by omega) (e2.symm.trans ew0.2)
  -- none known at first
  have l0 : ∀ k t, t + k = v_sM c n K P B p → ∀ h1, fr [(86, none), (128, none)] h h1 → (∀ a, a < t → hI h1 128 a = -nI 1) → ∃ h2, fr [(86, none), (128, none)] h h2 ∧ (∀ a, a < v_sM c n K P B p → hI h2 128 a = -nI 1) ∧ ∀ R, XX true 3 70 29 [.ref 123, .ref 66, .int (nI p), .int (nI i), .int (nI j), .int (nI 0), ax_junk, ax_junk] [] (h2) (R) → XX true 3 70 3 [.ref 123, .ref 66, .int (nI p), .int (nI i), .int (nI j), .int (nI t), ax_junk, ax_junk] [] (h1) (R) := by
    intro k
    induction k with
    | zero =>
      intro t ht h1 f a
      have e : t = v_sM c n K P B p := ht
      refine ⟨h1, f, fun a' ha => a a' (by omega), fun R u => ?_⟩
      refine wb_X5_isRecalled_3 ?_
      rw [f.I rfl, z.1, if_neg (nI_nlt (by omega) (by omega))]
      exact u
    | succ k ih =>
      intro t ht h1 f a
      obtain ⟨h2, f2, a2, u2⟩ := ih (t + 1) (by omega) (ax_wr h1 128 t (.int (-nI 1))) (f.wr' (by simp [inS])) (fun b hb => by
        by_cases e : b = t
        · rw [e, wr_I]
        · rw [wr_Ij e]
          exact a b (by omega))
      refine ⟨h2, f2, a2, fun R u => ?_⟩
      refine wb_X5_isRecalled_3 ?_
      rw [f.I rfl, z.1, if_pos (nI_lt (by omega) (by omega)), ix_nI (by omega), nI_s]
      exact ⟨in_nI (by omega) (by decide), u2 R u⟩
  obtain ⟨h2, f2, a2, u2⟩ := l0 (v_sM c n K P B p) 0 (by omega) h fr.rfl' (fun a ha => absurd ha (Nat.not_lt_zero _))
  obtain ⟨h', r, x, y⟩ := lp (v_ways c K B j) 0 (by omega) h2 f2 (fun t ht => Or.inl ⟨a2 t ht, fun w' hw' => absurd hw' (Nat.not_lt_zero _)⟩)
  refine ⟨h', r, ?_, y⟩
  refine wb_X5_isRecalled_0 ?_
  exact u2 _ x
abbrev cfRc : List (Nat × Option Nat) := [(86, none), (127, none), (124, none), (125, none), (126, none), (123, some 3), (128, none)]
theorem sp_areRecalled (s : tS 0 c n K P B S h) {p : Nat} (hp : p < 3) : ∃ h' r, XX true 5 69 0 [.ref 123, .ref 66, .int (nI p), ax_junk, ax_junk] [] (h) (some (.int (r)), h') ∧ fr cfRc h h' ∧ ((r = nI 1 ∧ v_rec c n K P B p) ∨ (r = nI 0 ∧ ¬ v_rec c n K P B p)) := by
  have h6 := s.n6
  obtain ⟨h0, r0, f0, z0⟩ := sp_gather s hp
  rw [v_agr_rec]
  have inn : ∀ j, j < n → ∀ k i, i + k = j → ∀ h1, fr cfRc h h1 → cSets c n K P B p h1 → (∀ i', i' < i → picks K P p i' → picks K P p j → v_agr c K P B p i' j) → ∃ h2, fr cfRc h h2 ∧ cSets c n K P B p h2 ∧ (((∀ i', i' < j → picks K P p i' → picks K P p j → v_agr c K P B p i' j) ∧ ∀ R, XX true 5 69 8 [.ref 123, .ref 66, .int (nI p), .int (nI (j + 1)), ax_junk] [] (h2) (R) → XX true 5 69 19 [.ref 123, .ref 66, .int (nI p), .int (nI j), .int (nI i)] [] (h1) (R)) ∨ ((∃ i', i' < j ∧ picks K P p i' ∧ picks K P p j ∧ ¬ v_agr c K P B p i' j) ∧ XX true 5 69 19 [.ref 123, .ref 66, .int (nI p), .int (nI j), .int (nI i)] [] (h1) ((some (.int (nI 0)), h2)))) := by
    intro j hj k
    induction k with
    | zero =>
      intro i hi h1 f z a
      obtain rfl : i = j := hi
      refine ⟨h1, f, z, Or.inl ⟨a, fun R u => ?_⟩⟩
      refine wb_X5_areRecalled_19 ?_
      rw [if_neg (nI_nlt (Nat.le_refl _) (by omega)), nI_s]
      exact u
    | succ k ih =>
      intro i hi h1 f z a
      have s1 : tS 0 c n K P B S h1 := s.fr f rfl rfl
      have nxt : ∀ h2 R, XX true 5 69 19 [.ref 123, .ref 66, .int (nI p), .int (nI j), .int (nI (i + 1))] [] (h2) (R) → XX true 5 69 58 [.ref 123, .ref 66, .int (nI p), .int (nI j), .int (nI i)] [] (h2) (R) := by
        intro h2 R u
        refine wb_X5_areRecalled_58 ?_
        rw [nI_s]
        exact u
      have pre : ∀ R, (¬ (picks K P p i ∧ picks K P p j) → XX true 5 69 58 [.ref 123, .ref 66, .int (nI p), .int (nI j), .int (nI i)] [] (h1) (R)) → (picks K P p i ∧ picks K P p j → XX true 5 69 50 [.ref 123, .ref 66, .int (nI p), .int (nI j), .int (nI i)] [.int (nI j), .int (nI i), .int (nI p), .ref 66, .ref 123] (h1) (R)) → XX true 5 69 19 [.ref 123, .ref 66, .int (nI p), .int (nI j), .int (nI i)] [] (h1) (R) := by
        intro R u1 u2
        refine wb_X5_areRecalled_19 ?_
        rw [if_pos (nI_lt (by omega) (by omega))]
        refine cl_X5_areRecalled_29 rfl (by decide) (sp_picksN s1 hp (by omega)) ?_
        refine wb_X5_areRecalled_32 ?_
        by_cases q1 : isChc (K i) ∧ P i = p
        · rw [b2i_t q1, if_neg (by decide)]
          refine cl_X5_areRecalled_38 rfl (by decide) (sp_picksN s1 hp hj) ?_
          refine wb_X5_areRecalled_41 ?_
          by_cases q2 : isChc (K j) ∧ P j = p
          · rw [b2i_t q2, if_neg (by decide)]
            exact u2 ⟨q1, q2⟩
          · rw [b2i_f q2, if_pos rfl]
            exact u1 (fun z => q2 z.2)
        · rw [b2i_f q1, if_pos rfl]
          exact u1 (fun z => q1 z.1)
      by_cases q : picks K P p i ∧ picks K P p j
      · obtain ⟨h2, r, r2, f2, d⟩ := sp_isRecalled s1 hp hj (i := i) (by omega) q.1 q.2 z
        have ff := f.trans (f2.mono rfl)
        have zz : cSets c n K P B p h2 := cSets_fr z f2 rfl
        rcases d with ⟨rfl, ag⟩ | ⟨rfl, na⟩
        · obtain ⟨h3, f3, z3, d3⟩ := ih (i + 1) (by omega) h2 ff zz (fun i' hi' a1 a2 => by
            by_cases e : i' = i
            · rw [e]; exact ag
            · exact a i' (by omega) a1 a2)
          refine ⟨h3, f3, z3, ?_⟩
          rcases d3 with ⟨d4, d5⟩ | ⟨d4, d5⟩
          · refine Or.inl ⟨d4, fun R u => pre R (fun z => absurd q z) (fun _ => ?_)⟩
            refine cl_X5_areRecalled_50 rfl (by decide) (r2) ?_
            refine wb_X5_areRecalled_53 ?_
            rw [if_neg (by decide)]
            exact nxt _ _ (d5 R u)
          · refine Or.inr ⟨d4, pre _ (fun z => absurd q z) (fun _ => ?_)⟩
            refine cl_X5_areRecalled_50 rfl (by decide) (r2) ?_
            refine wb_X5_areRecalled_53 ?_
            rw [if_neg (by decide)]
            exact nxt _ _ d5
        · refine ⟨h2, ff, zz, Or.inr ⟨⟨i, by omega, q.1, q.2, na⟩, pre _ (fun z => absurd q z) (fun _ => ?_)⟩⟩
          refine cl_X5_areRecalled_50 rfl (by decide) (r2) ?_
          refine wb_X5_areRecalled_53 ?_
          rw [if_pos rfl]
      · obtain ⟨h3, f3, z3, d3⟩ := ih (i + 1) (by omega) h1 f z (fun i' hi' a1 a2 => by
          by_cases e : i' = i
          · rw [e] at a1; exact absurd ⟨a1, a2⟩ q
          · exact a i' (by omega) a1 a2)
        refine ⟨h3, f3, z3, ?_⟩
        rcases d3 with ⟨d4, d5⟩ | ⟨d4, d5⟩
        · exact Or.inl ⟨d4, fun R u => pre R (fun _ => nxt _ _ (d5 R u)) (fun z => absurd z q)⟩
        · exact Or.inr ⟨d4, pre _ (fun _ => nxt _ _ d5) (fun z => absurd z q)⟩
  have out : ∀ k j, j + k = n → ∀ h1, fr cfRc h h1 → cSets c n K P B p h1 → (∀ j', j' < j → ∀ i, i < j' → picks K P p i → picks K P p j' → v_agr c K P B p i j') → ∃ h' r, XX true 5 69 8 [.ref 123, .ref 66, .int (nI p), .int (nI j), ax_junk] [] (h1) ((some (.int r), h')) ∧ fr cfRc h h' ∧ ((r = nI 1 ∧ ∀ j', j' < n → ∀ i, i < j' → picks K P p i → picks K P p j' → v_agr c K P B p i j') ∨ (r = nI 0 ∧ ¬ ∀ j', j' < n → ∀ i, i < j' → picks K P p i → picks K P p j' → v_agr c K P B p i j')) := by
    intro k
    induction k with
    | zero =>
      intro j hj h1 f z a
      obtain rfl : j = n := hj
      have s1 : tS 0 c j K P B S h1 := s.fr f rfl rfl
      refine ⟨h1, nI 1, ?_, f, Or.inl ⟨rfl, a⟩⟩
      refine wb_X5_areRecalled_8 ?_
      rw [s1.nn, if_neg (nI_nlt (Nat.le_refl _) (by omega))]
    | succ k ih =>
      intro j hj h1 f z a
      have s1 : tS 0 c n K P B S h1 := s.fr f rfl rfl
      obtain ⟨h2, f2, z2, d⟩ := inn j (by omega) j 0 (by omega) h1 f z (fun i' hi' => absurd hi' (Nat.not_lt_zero _))
      have pre : ∀ R, XX true 5 69 19 [.ref 123, .ref 66, .int (nI p), .int (nI j), .int (nI 0)] [] (h1) (R) → XX true 5 69 8 [.ref 123, .ref 66, .int (nI p), .int (nI j), ax_junk] [] (h1) (R) := by
        intro R u
        refine wb_X5_areRecalled_8 ?_
        rw [s1.nn, if_pos (nI_lt (by omega) (by omega))]
        exact u
      rcases d with ⟨d1, d2⟩ | ⟨⟨i, hi, a1, a2, a3⟩, d2⟩
      · obtain ⟨h', r, x, y⟩ := ih (j + 1) (by omega) h2 f2 z2 (fun j' hj' i hi a1 a2 => by
          by_cases e : j' = j
          · subst e
            exact d1 i hi a1 a2
          · exact a j' (by omega) i hi a1 a2)
        exact ⟨h', r, pre _ (d2 _ x), y⟩
      · exact ⟨h2, nI 0, pre _ d2, f2, Or.inr ⟨rfl, fun y => a3 (y j (by omega) i hi a1 a2)⟩⟩
  obtain ⟨h', r, x, y⟩ := out n 0 (by omega) h0 (f0.mono rfl) z0 (fun j' hj' => absurd hj' (Nat.not_lt_zero _))
  refine ⟨h', r, ?_, y⟩
  refine wb_X5_areRecalled_0 ?_
  refine cl_X5_areRecalled_3 rfl (by decide) (r0) ?_
  refine wb_X5_areRecalled_6 ?_
  exact x
theorem co_recalls (s : tS 0 c n K P B S h) (p : Int32) : ∃ h' r, XX true 6 68 0 [.ref 64, .int (p)] [] (h) (some (.int (r)), h') ∧ fr cfRc h h' ∧ ((¬ isPl p ∧ r = -nI 2) ∨ (isPl p ∧ v_rec c n K P B (ix p) ∧ r = nI 1) ∨ (isPl p ∧ ¬ v_rec c n K P B (ix p) ∧ r = nI 0)) := by
  by_cases q : isPl p
  · obtain ⟨a, ha, rfl⟩ := q.ex
    rw [ix_nI (by omega)]
    obtain ⟨h', r, x, f, d⟩ := sp_areRecalled s ha
    have pre : ∀ R, XX true 6 68 25 [ax_junk, ax_junk] [.int (r)] (h') (R) → XX true 6 68 0 [.ref 64, .int (nI a)] [] (h) (R) := by
      intro R u
      refine wb_X11_recalls_0 ?_
      refine cl_X11_recalls_1 rfl (by decide) (cp_isPlayer _ _) ?_
      refine wb_X11_recalls_4 ?_
      rw [b2i_t q, if_neg (by decide)]
      refine cl_X11_recalls_22 rfl (by decide) (x) ?_
      exact wkj u
    rcases d with ⟨rfl, d⟩ | ⟨rfl, d⟩
    · refine ⟨h', nI 1, pre _ ?_, f, Or.inr (Or.inl ⟨q, d, rfl⟩)⟩
      refine wb_X11_recalls_25 ?_
      rw [if_neg (by decide)]
    · refine ⟨h', nI 0, pre _ ?_, f, Or.inr (Or.inr ⟨q, d, rfl⟩)⟩
      refine wb_X11_recalls_25 ?_
      rw [if_pos rfl]
  · refine ⟨h, -nI 2, ?_, fr.rfl', Or.inl ⟨q, rfl⟩⟩
    refine wb_X11_recalls_0 ?_
    refine cl_X11_recalls_1 rfl (by decide) (cp_isPlayer _ _) ?_
    refine wb_X11_recalls_4 ?_
    rw [b2i_f q, if_pos rfl]
end S65
