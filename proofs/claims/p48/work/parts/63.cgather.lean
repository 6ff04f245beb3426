/-! THE CLASS: the sets are gathered -/
theorem cntN_pos {q : Nat → Bool} {m w : Nat} (hw : w < m) (h : q w = true) : cntN q m ≠ 0 := by
  induction m with
  | zero => exact absurd hw (Nat.not_lt_zero _)
  | succ m ih =>
    show cntN q m + (if q m = true then 1 else 0) ≠ 0
    by_cases z : w = m
    · rw [← z, if_pos h]
      omega
    · have := ih (by omega)
      omega
theorem cntV_y {r : Nat → Nat} {m x : Nat} (h : r m = x) : cntV r (m + 1) x = cntV r m x + 1 := cntN_yes (decide_eq_true h)
abbrev cfG : List (Nat × Option Nat) := [(86, none), (127, none), (124, none), (125, none), (126, none), (123, some 3)]
/-- the sets at a stage: how many ways each -/
def v_sz (c : Nat) (K P B : Nat → Nat) (p j x : Nat) : Nat := cntN (fun w => decide (v_vw c K P B p j w = x)) (v_ways c K B j)
section S63
variable {c n : Nat} {K P B S : Nat → Nat} {h h' : AH}
/-- the sets so far, their sizes by r -/
def cV (h : AH) (j F m : Nat) (f g : Nat → Nat) (h' : AH) : Prop := fr cfG h h' ∧ hI h' 123 3 = nI (F + m) ∧ (∀ t, t < m → hI h' 124 (F + t) = nI j ∧ hI h' 125 (F + t) = nI (f t) ∧ hI h' 126 (F + t) = nI (g t)) ∧ ∀ t, t < F → hI h' 124 t = hI h 124 t ∧ hI h' 125 t = hI h 125 t ∧ hI h' 126 t = hI h 126 t
theorem sp_ga_lp {j F N : Nat} {r : Nat → Nat} (hj : j < 6) (hN : N ≤ 1620) (so : sortV N r) (bd : ∀ a, a < N → r a < 524288) (hF : F + N ≤ 806) {h0 : AH} (c0 : cRw N r h0) : ∀ k a, a + k = N → ∀ m f h1, fr [(124, none), (125, none), (126, none), (123, some 3)] h0 h1 → cV h j F m f (fun t => cntV r a (f t)) h1 → m ≤ a → enumS (fun x => ∃ b, b < a ∧ r b = x) m f → (0 < a → 1 ≤ m ∧ f (m - 1) = r (a - 1)) → ∃ h' m f, XX true 3 42 48 [.ref 123, ax_junk, ax_junk, .int (nI j), .int (nI N), .int (nI a)] [] (h1) ((none, h')) ∧ m ≤ N ∧ enumS (fun x => ∃ b, b < N ∧ r b = x) m f ∧ cV h j F m f (fun t => cntV r N (f t)) h' := by
  intro k
  induction k with
  | zero =>
    intro a ha m f h1 f1 cv hm en la
    obtain rfl : a = N := ha
    refine ⟨h1, m, f, ?_, hm, en, cv⟩
    refine wb_X5_gatherAt_48 ?_
    rw [if_neg (nI_nlt (Nat.le_refl _) (by omega))]
  | succ k ih =>
    intro a ha m f h1 f1 cv hm en la
    have c1 : ∀ b, b < N → hI h1 127 b = nI (r b) := fun b hb => (f1.I rfl).trans (c0 b hb)
    have ba := bd a (by omega)
    by_cases old : 0 < a ∧ r a = r (a - 1)
    · obtain ⟨m1, lm⟩ := la old.1
      have qq : ∀ x, (∃ b, b < a ∧ r b = x) ↔ ∃ b, b < a + 1 ∧ r b = x := fun x => ⟨fun ⟨b, hb, e⟩ => ⟨b, by omega, e⟩, fun ⟨b, hb, e⟩ => by
        by_cases z : b = a
        · exact ⟨a - 1, by omega, by rw [← old.2, ← z]; exact e⟩
        · exact ⟨b, by omega, e⟩⟩
      have cs := cv.2.2.1 (m - 1) (by omega)
      rw [show F + (m - 1) = F + m - 1 by omega] at cs
      obtain ⟨h', m', f', x, y⟩ := ih (a + 1) (by omega) m f (ax_wr h1 126 (F + m - 1) (.int (nI (cntV r a (f (m - 1)) + 1)))) (f1.wr' (by simp [inS])) ⟨cv.1.wr' (by simp [inS]), by rw [wr_Ia (by decide)]; exact cv.2.1, fun t ht => ⟨by rw [wr_Ia (by decide)]; exact (cv.2.2.1 t ht).1, by rw [wr_Ia (by decide)]; exact (cv.2.2.1 t ht).2.1, by
        by_cases z : t = m - 1
        · rw [z, show F + (m - 1) = F + m - 1 by omega, wr_I]
          show _ = nI (cntV r (a + 1) (f (m - 1)))
          rw [cntV_y (by rw [lm]; exact old.2)]
        · rw [wr_Ij (by omega)]
          have g := (cv.2.2.1 t ht).2.2
          have e : cntV r (a + 1) (f t) = cntV r a (f t) := cntN_not (by
            have := en.1 t (m - 1) (by omega) (by omega)
            have ne : ¬ r a = f t := by rw [old.2, ← lm]; omega
            simp [ne])
          show _ = nI (cntV r (a + 1) (f t))
          rw [e]
          exact g⟩, fun t ht => ⟨by rw [wr_Ia (by decide)]; exact (cv.2.2.2 t ht).1, by rw [wr_Ia (by decide)]; exact (cv.2.2.2 t ht).2.1, by rw [wr_Ij (by omega)]; exact (cv.2.2.2 t ht).2.2⟩⟩ (by omega) (en.congr qq) (fun _ => ⟨m1, by rw [Nat.add_sub_cancel, lm, old.2]⟩)
      refine ⟨h', m', f', ?_, y⟩
      refine wb_X5_gatherAt_48 ?_
      rw [if_pos (nI_lt (by omega) (by omega)), if_neg (nI_p old.1 (by omega)), ix_nI (by omega), show nI a - nI 1 = nI (a - 1) from nI_subI (by omega), ix_nI (by omega), c1 a (by omega), c1 (a - 1) (by omega), cv.2.1]
      refine ⟨in_nI (by omega) (by decide), in_nI (by omega) (by decide), ?_⟩
      rw [if_pos (congrArg nI old.2), show nI (F + m) - nI 1 = nI (F + m - 1) from nI_subI (by omega), ix_nI (by omega), cs.2.2, nI_s]
      refine ⟨in_nI (by omega) (by decide), in_nI (by omega) (by decide), ?_⟩
      refine wb_X5_gatherAt_153 ?_
      rw [nI_s]
      exact x
    · have new : ∀ b, b < a → r b < r a := by
        intro b hb
        have s1 := so b a hb (by omega)
        have s2 := so (a - 1) a (by omega) (by omega)
        by_cases z : b = a - 1
        · have : r a ≠ r (a - 1) := fun y => old ⟨by omega, y⟩
          rw [z]
          omega
        · have s3 := so b (a - 1) (by omega) (by omega)
          have : r a ≠ r (a - 1) := fun y => old ⟨by omega, y⟩
          omega
      have lo : ∀ t, t < m → f t < r a := by
        intro t ht
        obtain ⟨b, hb, e⟩ := en.2.1 t ht
        rw [← e]
        exact new b hb
      have ia : insA f m (r a) m := ⟨Nat.le_refl _, fun t ht ht2 => absurd ht (by omega), by
        by_cases z : m = 0
        · exact Or.inl z
        · exact Or.inr (Nat.le_of_lt (lo (m - 1) (by omega)))⟩
      have e2 := en.ins ia (by
        by_cases z : m = 0
        · exact Or.inl z
        · exact Or.inr (Nat.ne_of_lt (lo (m - 1) (by omega))))
      have qq : ∀ x, ((∃ b, b < a ∧ r b = x) ∨ x = r a) ↔ ∃ b, b < a + 1 ∧ r b = x := fun x => ⟨fun z => z.elim (fun ⟨b, hb, e⟩ => ⟨b, by omega, e⟩) (fun e => ⟨a, by omega, e.symm⟩), fun ⟨b, hb, e⟩ => by
        by_cases z : b = a
        · exact Or.inr (by rw [← e, z])
        · exact Or.inl ⟨b, by omega, e⟩⟩
      have fl : ∀ t, t < m → insF f (r a) m t = f t := fun t ht => if_pos ht
      have fm : insF f (r a) m m = r a := by
        unfold insF
        rw [if_neg (Nat.lt_irrefl _), if_pos rfl]
      have z0 : cntV r a (r a) = 0 := by
        apply Classical.byContradiction
        intro z
        obtain ⟨w, hw, e⟩ := cntN_0 z
        have := new w hw
        have := of_decide_eq_true e
        omega
      obtain ⟨h', m', f', x, y⟩ := ih (a + 1) (by omega) (m + 1) (insF f (r a) m) (ax_wr (ax_wr (ax_wr (ax_wr h1 124 (F + m) (.int (nI j))) 125 (F + m) (.int (nI (r a)))) 126 (F + m) (.int (nI 1))) 123 3 (.int (nI (F + m + 1)))) ((((f1.wr' (by simp [inS])).wr' (by simp [inS])).wr' (by simp [inS])).wr' (by simp [inS])) ⟨(((cv.1.wr' (by simp [inS])).wr' (by simp [inS])).wr' (by simp [inS])).wr' (by simp [inS]), wr_I _ _ _ _, fun t ht => by
        by_cases z : t = m
        · rw [z, fm]
          refine ⟨?_, ?_, ?_⟩
          · rw [wr_Ia (by decide), wr_Ia (by decide), wr_Ia (by decide), wr_I]
          · rw [wr_Ia (by decide), wr_Ia (by decide), wr_I]
          · rw [wr_Ia (by decide), wr_I]
            show _ = nI (cntV r (a + 1) (insF f (r a) m m))
            rw [fm, cntV_y rfl, z0]
        · have g := cv.2.2.1 t (by omega)
          rw [fl t (by omega)]
          refine ⟨?_, ?_, ?_⟩
          · rw [wr_Ia (by decide), wr_Ia (by decide), wr_Ia (by decide), wr_Ij (by omega)]; exact g.1
          · rw [wr_Ia (by decide), wr_Ia (by decide), wr_Ij (by omega), wr_Ia (by decide)]; exact g.2.1
          · rw [wr_Ia (by decide), wr_Ij (by omega), wr_Ia (by decide), wr_Ia (by decide)]
            show _ = nI (cntV r (a + 1) (insF f (r a) m t))
            have e : cntV r (a + 1) (f t) = cntV r a (f t) := cntN_not (by
              have := lo t (by omega)
              have ne : ¬ r a = f t := by omega
              simp [ne])
            rw [fl t (by omega), e]
            exact g.2.2, fun t ht => by
        have g := cv.2.2.2 t ht
        refine ⟨?_, ?_, ?_⟩
        · rw [wr_Ia (by decide), wr_Ia (by decide), wr_Ia (by decide), wr_Ij (by omega)]; exact g.1
        · rw [wr_Ia (by decide), wr_Ia (by decide), wr_Ij (by omega), wr_Ia (by decide)]; exact g.2.1
        · rw [wr_Ia (by decide), wr_Ij (by omega), wr_Ia (by decide), wr_Ia (by decide)]; exact g.2.2⟩ (by omega) (e2.congr qq) (fun _ => ⟨by omega, by rw [Nat.add_sub_cancel, Nat.add_sub_cancel, fm]⟩)
      have g97 : XX true 3 42 97 [.ref 123, ax_junk, ax_junk, .int (nI j), .int (nI N), .int (nI a)] [] (h1) ((none, h')) := by
        refine wb_X5_gatherAt_97 ?_
        simp only [hI_wr, cv.2.1, show ¬ (123 = 124 ∧ 3 = ix (nI (F + m))) by omega, show ¬ (123 = 125 ∧ 3 = ix (nI (F + m))) by omega, show ¬ (123 = 126 ∧ 3 = ix (nI (F + m))) by omega, show ¬ (127 = 124 ∧ ix (nI a) = ix (nI (F + m))) by omega, if_false]
        rw [if_pos (nI_lt (by omega) (by omega)), ix_nI (by omega), ix_nI (by omega), c1 a (by omega), nI_s]
        refine ⟨in_nI (by omega) (by decide), in_nI (by omega) (by decide), in_nI (by omega) (by decide), in_nI (by omega) (by decide), ?_⟩
        refine wb_X5_gatherAt_153 ?_
        rw [nI_s]
        exact x
      refine ⟨h', m', f', ?_, y⟩
      refine wb_X5_gatherAt_48 ?_
      rw [if_pos (nI_lt (by omega) (by omega))]
      by_cases a0 : a = 0
      · rw [if_pos (by rw [a0]; decide)]
        exact g97
      · rw [if_neg (nI_p (by omega) (by omega)), ix_nI (by omega), show nI a - nI 1 = nI (a - 1) from nI_subI (by omega), ix_nI (by omega), c1 a (by omega), c1 (a - 1) (by omega)]
        refine ⟨in_nI (by omega) (by decide), in_nI (by omega) (by decide), ?_⟩
        have := bd (a - 1) (by omega)
        rw [if_neg (fun z => old ⟨by omega, (nI_eq (by omega) (by omega)).mp z⟩)]
        exact g97
theorem sp_gatherAt (s : tS 0 c n K P B S h) {p j F : Nat} (hp : p < 3) (hj : j < n) (hF : hI h 123 3 = nI F) (hF2 : F + v_ways c K B j ≤ 806) : ∃ h' m f, XX true 3 42 0 [.ref 123, .ref 66, .int (nI p), .int (nI j), ax_junk, ax_junk] [] (h) (none, h') ∧ m ≤ v_ways c K B j ∧ enumS (vwQ c K P B p j (v_ways c K B j)) m f ∧ cV h j F m f (fun t => v_sz c K P B p j (f t)) h' := by
  have h6 := s.n6
  have wl := v_ways_le s.ok (j := j) (by omega)
  have lp : ∀ k w, w + k = v_ways c K B j → ∀ h1, fr [(86, none), (127, none)] h h1 → (∀ a, a < w → hI h1 127 a = nI (v_vw c K P B p j a)) → ∃ h2, fr [(86, none), (127, none)] h h2 ∧ cRw (v_ways c K B j) (fun a => v_vw c K P B p j a) h2 ∧ ∀ R, XX true 3 42 42 [.ref 123, ax_junk, ax_junk, .int (nI j), .int (nI (v_ways c K B j)), ax_junk] [.int (nI (v_ways c K B j)), .ref 123] (h2) (R) → XX true 3 42 11 [.ref 123, .ref 66, .int (nI p), .int (nI j), .int (nI (v_ways c K B j)), .int (nI w)] [] (h1) (R) := by
    intro k
    induction k with
    | zero =>
      intro w hw h1 f1 e1
      obtain rfl : w = v_ways c K B j := hw
      refine ⟨h1, f1, e1, fun R u => ?_⟩
      refine wb_X5_gatherAt_11 ?_
      rw [if_neg (nI_nlt (Nat.le_refl _) (by omega))]
      exact XX.junk u (by repeat' (first | exact ax_jle.nil | apply ax_jle.cons | apply ax_jle.skip))
    | succ k ih =>
      intro w hw h1 f1 e1
      have s1 : tS 0 c n K P B S h1 := s.fr f1 rfl rfl
      obtain ⟨h2, r2, f2, _⟩ := sp_sightOf s1 hp (j := j) (by omega) (w := w) (by omega)
      obtain ⟨h3, f3, c3, u3⟩ := ih (w + 1) (by omega) (ax_wr h2 127 w (.int (nI (v_vw c K P B p j w)))) ((f1.trans (f2.mono rfl)).wr' (by simp [inS])) (fun a ha => by
        by_cases z : a = w
        · rw [z, wr_I]
        · rw [wr_Ij z, f2.I rfl]
          exact e1 a (by omega))
      refine ⟨h3, f3, c3, fun R u => ?_⟩
      refine wb_X5_gatherAt_11 ?_
      rw [if_pos (nI_lt (by omega) (by omega))]
      refine cl_X5_gatherAt_29 rfl (by decide) (r2) ?_
      refine wb_X5_gatherAt_32 ?_
      rw [ix_nI (by omega), nI_s]
      exact ⟨in_nI (by omega) (by decide), u3 R u⟩
  obtain ⟨h2, f2, c2, u2⟩ := lp (v_ways c K B j) 0 (by omega) h fr.rfl' (fun a ha => absurd ha (Nat.not_lt_zero _))
  have bv : ∀ a, a < v_ways c K B j → v_vw c K P B p j a < 524288 := fun a _ => (v_vw_lt s.ok (j := j) (by omega) p a).2
  obtain ⟨r, h3, r3, f3, c3, b3, pm, so⟩ := sp_sort wl c2 bv
  have f23 : fr [(86, none), (127, none)] h h3 := f2.trans (f3.mono rfl)
  obtain ⟨h', m, f, x, hm, en, cv⟩ := sp_ga_lp (h := h) (j := j) (F := F) (by omega) wl so b3 hF2 c3 (v_ways c K B j) 0 (by omega) 0 id h3 fr.rfl' ⟨f23.mono rfl, (f23.I rfl).trans hF, fun t ht => absurd ht (Nat.not_lt_zero _), fun t ht => ⟨f23.I rfl, f23.I rfl, f23.I rfl⟩⟩ (Nat.le_refl _) (enumS.nil _ (fun x ⟨b, hb, _⟩ => Nat.not_lt_zero _ hb)) (fun z => absurd z (Nat.lt_irrefl _))
  have qq : ∀ x, (∃ b, b < v_ways c K B j ∧ r b = x) ↔ vwQ c K P B p j (v_ways c K B j) x := by
    intro x
    have pmx : cntN (fun a => decide (v_vw c K P B p j a = x)) (v_ways c K B j) = cntN (fun a => decide (r a = x)) (v_ways c K B j) := pm x
    constructor
    · rintro ⟨b, hb, e⟩
      have := cntN_pos (q := fun a => decide (r a = x)) hb (decide_eq_true e)
      rw [← pmx] at this
      obtain ⟨w, hw, e2⟩ := cntN_0 this
      exact ⟨w, hw, of_decide_eq_true e2⟩
    · rintro ⟨b, hb, e⟩
      have := cntN_pos (q := fun a => decide (v_vw c K P B p j a = x)) hb (decide_eq_true e)
      rw [pmx] at this
      obtain ⟨w, hw, e2⟩ := cntN_0 this
      exact ⟨w, hw, of_decide_eq_true e2⟩
  refine ⟨h', m, f, ?_, hm, en.congr qq, cv.1, cv.2.1, fun t ht => ?_, cv.2.2.2⟩
  · refine wb_X5_gatherAt_0 ?_
    rw [ix_nI (by omega), s.beh j (by omega)]
    refine ⟨in_nI (by omega) (by decide), ?_⟩
    refine u2 _ ?_
    refine cl_X5_gatherAt_42 rfl (by decide) (r3) ?_
    refine wb_X5_gatherAt_45 ?_
    exact x
  · have g := cv.2.2.1 t ht
    refine ⟨g.1, g.2.1, ?_⟩
    show _ = nI (cntN (fun w => decide (v_vw c K P B p j w = f t)) (v_ways c K B j))
    have pmx : cntN (fun a => decide (v_vw c K P B p j a = f t)) (v_ways c K B j) = cntN (fun a => decide (r a = f t)) (v_ways c K B j) := pm (f t)
    rw [pmx]
    exact g.2.2
/-- the sets lie there -/
def cSets (c n : Nat) (K P B : Nat → Nat) (p : Nat) (h : AH) : Prop := hI h 123 3 = nI (v_sM c n K P B p) ∧ ∀ t, t < v_sM c n K P B p → hI h 124 t = nI (v_sJ c n K P B p t) ∧ hI h 125 t = nI (v_sV c n K P B p t) ∧ hI h 126 t = nI (v_sz c K P B p (v_sJ c n K P B p t) (v_sV c n K P B p t))
theorem cSets_fr {p : Nat} (s : cSets c n K P B p h) {L : List (Nat × Option Nat)} (f : fr L h h') (q : outS 123 127 L = true) : cSets c n K P B p h' := ⟨(f.I (outS_in q (by omega) (by omega) _)).trans s.1, fun t ht => ⟨(f.I (outS_in q (by omega) (by omega) _)).trans (s.2 t ht).1, (f.I (outS_in q (by omega) (by omega) _)).trans (s.2 t ht).2.1, (f.I (outS_in q (by omega) (by omega) _)).trans (s.2 t ht).2.2⟩⟩
theorem sp_gather (s : tS 0 c n K P B S h) {p : Nat} (hp : p < 3) : ∃ h', XX true 4 40 0 [.ref 123, .ref 66, .int (nI p), ax_junk] [] (h) (none, h') ∧ fr cfG h h' ∧ cSets c n K P B p h' := by
  have h6 := s.n6
  have lp : ∀ k j, j + k = n → ∀ h1 F g, fr cfG h h1 → F ≤ setB c K P B p j → enumS (setQ c K P B p j) F g → hI h1 123 3 = nI F → (∀ t, t < F → hI h1 124 t = nI (g t / 524288) ∧ hI h1 125 t = nI (g t % 524288) ∧ hI h1 126 t = nI (v_sz c K P B p (g t / 524288) (g t % 524288))) → ∃ h' F g, XX true 4 40 7 [.ref 123, .ref 66, .int (nI p), .int (nI j)] [] (h1) ((none, h')) ∧ fr cfG h h' ∧ enumS (setQ c K P B p n) F g ∧ hI h' 123 3 = nI F ∧ ∀ t, t < F → hI h' 124 t = nI (g t / 524288) ∧ hI h' 125 t = nI (g t % 524288) ∧ hI h' 126 t = nI (v_sz c K P B p (g t / 524288) (g t % 524288)) := by
    intro k
    induction k with
    | zero =>
      intro j hj h1 F g f hF e c14 cl
      obtain rfl : j = n := hj
      refine ⟨h1, F, g, ?_, f, e, c14, cl⟩
      have s1 : tS 0 c j K P B S h1 := s.fr f rfl rfl
      refine wb_X5_gather_7 ?_
      rw [s1.nn, if_neg (nI_nlt (Nat.le_refl _) (by omega))]
    | succ k ih =>
      intro j hj h1 F g f hF e c14 cl
      have s1 : tS 0 c n K P B S h1 := s.fr f rfl rfl
      have sb : setB c K P B p (j + 1) = setB c K P B p j + (if picks K P p j then v_ways c K B j else 0) := rfl
      have s8 : setB c K P B p (j + 1) ≤ 806 := Nat.le_trans (setB_le1 s.ok p (j + 1) (by omega)) (v_c8 (j + 1) (by omega))
      have pre : ∀ R, (XX true 4 40 21 [.ref 123, .ref 66, .int (nI p), .int (nI j)] [.int (b2i (isChc (K j) ∧ P j = p))] (h1) (R)) → XX true 4 40 7 [.ref 123, .ref 66, .int (nI p), .int (nI j)] [] (h1) (R) := by
        intro R a
        refine wb_X5_gather_7 ?_
        rw [s1.nn, if_pos (nI_lt (by omega) (by omega))]
        refine cl_X5_gather_18 rfl (by decide) (sp_picksN s1 hp (by omega)) ?_
        exact a
      by_cases q : picks K P p j
      · rw [if_pos q] at sb
        obtain ⟨h2, m, fv, r2, hm, e2, mv⟩ := sp_gatherAt s1 hp (j := j) (by omega) c14 (by omega)
        have f2 := f.trans mv.1
        have gq : ∀ x, setQ c K P B p j x → x < j * 524288 := fun x hx => setQ_lt s.ok (by omega) hx
        obtain ⟨h', F', g', r', x, y, z, u⟩ := ih (j + 1) (by omega) h2 (F + m) (appF F (j * 524288) g fv) f2 (by omega) ((e.app e2 gq).congr (setQ_more q)) mv.2.1 (fun t ht => by
          unfold appF
          by_cases t1 : t < F
          · rw [if_pos t1]
            have a := mv.2.2.2 t t1
            have b := cl t t1
            exact ⟨a.1.trans b.1, a.2.1.trans b.2.1, a.2.2.trans b.2.2⟩
          · rw [if_neg t1]
            have a := mv.2.2.1 (t - F) (by omega)
            rw [show F + (t - F) = t by omega] at a
            have vl : fv (t - F) < 524288 := by
              obtain ⟨w', _, e'⟩ := e2.2.1 (t - F) (by omega)
              have := (v_vw_lt s.ok (j := j) (by omega) p w').2
              rw [e'] at this
              exact this
            rw [show (j * 524288 + fv (t - F)) / 524288 = j by omega, show (j * 524288 + fv (t - F)) % 524288 = fv (t - F) by omega]
            exact a)
        refine ⟨h', F', g', pre _ ?_, x, y, z, u⟩
        refine wb_X5_gather_21 ?_
        rw [b2i_t q, if_neg (by decide)]
        refine cl_X5_gather_28 rfl (by decide) (r2) ?_
        refine wb_X5_gather_31 ?_
        rw [nI_s]
        exact r'
      · rw [if_neg q] at sb
        obtain ⟨h', F', g', r', x, y, z, u⟩ := ih (j + 1) (by omega) h1 F g f (by omega) (e.congr (setQ_skip q)) c14 cl
        refine ⟨h', F', g', pre _ ?_, x, y, z, u⟩
        refine wb_X5_gather_21 ?_
        rw [b2i_f q, if_pos rfl]
        refine wb_X5_gather_31 ?_
        rw [nI_s]
        exact r'
  obtain ⟨h', F, g, r, f, e, c14, cl⟩ := lp n 0 (by omega) (ax_wr h 123 3 (.int (nI 0))) 0 id (fr.wr rfl) (Nat.le_refl _) (enumS.nil _ (fun x ⟨j, v, hj, _⟩ => Nat.not_lt_zero _ hj)) (wr_I _ _ _ _) (fun t ht => absurd ht (Nat.not_lt_zero _))
  refine ⟨h', ?_, f, ?_⟩
  · refine wb_X5_gather_0 ?_
    exact r
  · have u := e.eq (v_sets_ok s.ok p).2
    refine ⟨by rw [c14, u.1], fun t ht => ?_⟩
    have ht' : t < F := by rw [u.1]; exact ht
    have := cl t ht'
    rw [u.2 t ht'] at this
    exact this
end S63
