/-! REPLIES: the reference's runs -/
abbrev frP : List (Nat × Option Nat) := [(160, none), (153, some 23), (166, none), (167, none), (168, none)]
section S31
variable {c n np nr : Nat} {K P B T C : Nat → Nat} {U : Nat → Nat → Nat} {V W : Nat → Int} {h h' : AH}
/-- one played way's row: the first i stages -/
def plRow (c n : Nat) (K P B : Nat → Nat) (p k w m : Nat) (h : AH) : Prop := ∀ i, i < m → (picks K P p i → hI h 167 (6 * k + i) = nI (v_wix c n K P B p w i)) ∧ (¬ picks K P p i → hI h 167 (6 * k + i) = -nI 1) ∧ hI h 168 (6 * k + i) = nI (v_what c K B n w i)
/-- m played ways lie there, f says which -/
def mPl (c n : Nat) (K P B : Nat → Nat) (U : Nat → Nat → Nat) (V W : Nat → Int) (nr p m : Nat) (f : Nat → Nat) (h : AH) : Prop := hI h 153 23 = nI m ∧ ∀ k, k < m → f k < v_ways c K B n ∧ hI h 166 k = iI (v_pay U V W c n (v_what c K B n (f k)) p nr) ∧ plRow c n K P B p k (f k) n h
theorem mPl.fr {p m : Nat} {f : Nat → Nat} (x : mPl c n K P B U V W nr p m f h) {L : List (Nat × Option Nat)} (g : fr L h h') (q0 : inS L 153 23 = false) (q1 : ∀ j, inS L 166 j = false) (q2 : ∀ j, inS L 167 j = false) (q3 : ∀ j, inS L 168 j = false) : mPl c n K P B U V W nr p m f h' := ⟨(g.I q0).trans x.1, fun k hk => ⟨(x.2 k hk).1, (g.I (q1 k)).trans (x.2 k hk).2.1, fun i hi => ⟨fun z => (g.I (q2 _)).trans (((x.2 k hk).2.2 i hi).1 z), fun z => (g.I (q2 _)).trans (((x.2 k hk).2.2 i hi).2.1 z), (g.I (q3 _)).trans ((x.2 k hk).2.2 i hi).2.2⟩⟩⟩
theorem sp_lp_row (s : mS c n K P B h) {p m Wn w : Nat} {f : Nat → Nat} (hp : p < 3) (hm : m < 1620) (hw : w < v_ways c K B n) : ∀ k i, i + k = n → ∀ h1, fr frP h h1 → mSets c n K P B p h1 → okO h1 n (v_what c K B n w) → mPl c n K P B U V W nr p m f h1 → plRow c n K P B p m w i h1 → ∃ h2, fr frP h h2 ∧ mSets c n K P B p h2 ∧ okO h2 n (v_what c K B n w) ∧ mPl c n K P B U V W nr p m f h2 ∧ plRow c n K P B p m w n h2 ∧ ∀ R, XX true 17 217 45 [.ref 153, .int (nI p), .int (nI Wn), .int (nI w), .int (nI n), ax_junk] [] (h2) (R) → XX true 17 217 45 [.ref 153, .int (nI p), .int (nI Wn), .int (nI w), .int (nI i), ax_junk] [] (h1) (R) := by
  have h6 := s.n6
  have m8 := v_sM_le s.1 p
  intro k
  induction k with
  | zero =>
    intro i hi h1 f1 z o pl row
    obtain rfl : i = n := hi
    have s1 : mS c i K P B h1 := s.fr f1 rfl
    exact ⟨h1, f1, z, o, pl, row, fun R u => u⟩
  | succ k ih =>
    intro i hi h1 f1 z o pl row
    have s1 : mS c n K P B h1 := s.fr f1 rfl
    have ok := s.ok (i := i) (by omega)
    have el := v_what_lt s.1 (Nat.le_refl n) w (i := i) (by omega)
    -- one stage's cells
    have put : ∀ x : Int32, (picks K P p i → x = nI (v_wix c n K P B p w i)) → (¬ picks K P p i → x = -nI 1) → ∃ h2, fr frP h h2 ∧ mSets c n K P B p h2 ∧ okO h2 n (v_what c K B n w) ∧ mPl c n K P B U V W nr p m f h2 ∧ plRow c n K P B p m w n h2 ∧ ∀ R, XX true 17 217 45 [.ref 153, .int (nI p), .int (nI Wn), .int (nI w), .int (nI n), ax_junk] [] (h2) (R) → XX true 17 217 121 [.ref 153, .int (nI p), .int (nI Wn), .int (nI w), .int (nI i), ax_junk] [.int (x), .int (nI (6 * m + i)), .ref 167] (h1) (R) := by
      intro x x1 x2
      have g : fr [(167, none), (168, none)] h1 (ax_wr (ax_wr h1 167 (6 * m + i) (.int x)) 168 (6 * m + i) (.int (nI (v_what c K B n w i)))) := (fr.wr (by simp [inS])).wr' (by simp [inS])
      have old : ∀ j, j ≠ 6 * m + i → hI (ax_wr (ax_wr h1 167 (6 * m + i) (.int x)) 168 (6 * m + i) (.int (nI (v_what c K B n w i)))) 167 j = hI h1 167 j ∧ hI (ax_wr (ax_wr h1 167 (6 * m + i) (.int x)) 168 (6 * m + i) (.int (nI (v_what c K B n w i)))) 168 j = hI h1 168 j := fun j hj => ⟨by rw [wr_Ia (by decide), wr_Ij hj], by rw [wr_Ij hj, wr_Ia (by decide)]⟩
      obtain ⟨h2, a1, a2, a3, a4, a5, a6⟩ := ih (i + 1) (by omega) _ (f1.trans (g.mono rfl)) (z.fr g (fun _ => rfl) (fun _ => rfl) rfl) (fun a ha => (g.I rfl).trans (o a ha)) ⟨(g.I rfl).trans pl.1, fun k' hk' => ⟨(pl.2 k' hk').1, (g.I rfl).trans (pl.2 k' hk').2.1, fun a ha => by
          have e := old (6 * k' + a) (by omega)
          have r := (pl.2 k' hk').2.2 a ha
          rw [e.1, e.2]
          exact r⟩⟩ (fun a ha => by
          by_cases e : a = i
          · subst e
            rw [wr_I, wr_Ia (by decide), wr_I]
            exact ⟨x1, x2, rfl⟩
          · have e' := old (6 * m + a) (by omega)
            rw [e'.1, e'.2]
            exact row a (by omega))
      refine ⟨h2, a1, a2, a3, a4, a5, fun R u => ?_⟩
      refine wb_X12_laysPlayed_121 ?_
      rw [wr_Ia (by decide), wr_Ia (by decide), pl.1, nI_mulI, nI_add, ix_nI (by omega), ix_nI (by omega), o i (by omega), nI_s]
      exact ⟨in_nI (by omega) (by decide), in_nI (by omega) (by decide), in_nI (by omega) (by decide), wk_X12_laysPlayed_45 (a6 R u)⟩
    have pre : ∀ R, (picks K P p i → XX true 17 217 83 [.ref 153, .int (nI p), .int (nI Wn), .int (nI w), .int (nI i), ax_junk] [.int (nI 1)] (h1) (R)) → (¬ picks K P p i → XX true 17 217 83 [.ref 153, .int (nI p), .int (nI Wn), .int (nI w), .int (nI i), ax_junk] [.int (nI 0)] (h1) (R)) → XX true 17 217 45 [.ref 153, .int (nI p), .int (nI Wn), .int (nI w), .int (nI i), ax_junk] [] (h1) (R) := by
      intro R x y
      have y' : ¬ picks K P p i → XX true 17 217 82 [.ref 153, .int (nI p), .int (nI Wn), .int (nI w), .int (nI i), ax_junk] [] (h1) (R) := by
        intro q
        refine wb_X12_laysPlayed_82 ?_
        exact y q
      refine wb_X12_laysPlayed_45 ?_
      rw [s1.nn, if_pos (nI_lt (by omega) (by omega)), ix_nI (by omega), s1.KK (by omega)]
      refine ⟨in_nI (by omega) (by decide), ?_⟩
      refine (cl_X12_laysPlayed_61 rfl (by decide) (sp_isChoice (by omega) h1)).mpr ?_
      refine wb_X12_laysPlayed_64 ?_
      by_cases q : isChc (K i)
      · rw [b2i_t q, if_neg (by decide), ix_nI (by omega), s1.PP (by omega)]
        refine ⟨in_nI (by omega) (by decide), ?_⟩
        by_cases q2 : P i = p
        · rw [if_pos (congrArg nI q2)]
          exact wk_X12_laysPlayed_83 (x ⟨q, q2⟩)
        · rw [if_neg (fun y => q2 ((nI_eq (by omega) (by omega)).mp y))]
          exact wk_X12_laysPlayed_82 (y' (fun y => q2 y.2))
      · rw [b2i_f q, if_pos rfl]
        exact wk_X12_laysPlayed_82 (y' (fun y => q y.1))
    by_cases q : picks K P p i
    · have wi := v_wix_is s.1 (p := p) (i := i) (by omega) q hw
      obtain ⟨h2, a1, a2, a3, a4, a5, a6⟩ := put (nI (v_wix c n K P B p w i)) (fun _ => rfl) (fun u => absurd q u)
      refine ⟨h2, a1, a2, a3, a4, a5, fun R u => pre R (fun _ => ?_) (fun u => absurd q u)⟩
      refine wb_X12_laysPlayed_83 ?_
      rw [if_neg (by decide), pl.1, nI_mulI, nI_add]
      refine (cl_X12_laysPlayed_111 rfl (by decide) (sp_viewOf s1 (by omega) hp o (by omega))).mpr ?_
      refine (cl_X12_laysPlayed_114 rfl (by decide) (sp_setAt s1 z wi.1 wi.2.1 wi.2.2)).mpr ?_
      refine wb_X12_laysPlayed_117 ?_
      exact wk_X12_laysPlayed_121 (a6 R u)
    · obtain ⟨h2, a1, a2, a3, a4, a5, a6⟩ := put (-nI 1) (fun u => absurd u q) (fun _ => rfl)
      refine ⟨h2, a1, a2, a3, a4, a5, fun R u => pre R (fun u => absurd u q) (fun _ => ?_)⟩
      refine wb_X12_laysPlayed_83 ?_
      rw [if_pos rfl, pl.1, nI_mulI, nI_add]
      exact wk_X12_laysPlayed_121 (a6 R u)
/-- the sum over the played ways -/
abbrev plSum (c n : Nat) (K P B : Nat → Nat) (ch : Nat → Nat → Nat → Nat) (p m w : Nat) (f : Nat → Nat) : Prop := ∀ g : Nat → Int, sumZ (fun k => g (f k)) m = sumZ (fun w => if v_pl K P ch p (v_what c K B n w) n = true then g w else 0) w
theorem sp_laysPlayed (s : mS c n K P B h) (t : mP np T C h) (w : mW W h) (r : mR nr U V h) {p : Nat} (hp : p < 3) (z : mSets c n K P B p h) : ∃ h' m f, XX true 17 217 0 [.ref 153, .int (nI p), ax_junk, ax_junk, ax_junk, ax_junk] [] (h) (none, h') ∧ fr frP h h' ∧ m ≤ v_ways c K B n ∧ mPl c n K P B U V W nr p m f h' ∧ plSum c n K P B (v_chs np T C B) p m (v_ways c K B n) f := by
  have h6 := s.n6
  have wl := v_ways_le s.1 (Nat.le_refl n)
  have lp : ∀ k i, i + k = v_ways c K B n → ∀ h1 m f, fr frP h h1 → m ≤ i → mPl c n K P B U V W nr p m f h1 → plSum c n K P B (v_chs np T C B) p m i f → ∃ h' m f, XX true 17 217 16 [.ref 153, .int (nI p), .int (nI (v_ways c K B n)), .int (nI i), ax_junk, ax_junk] [] (h1) ((none, h')) ∧ fr frP h h' ∧ m ≤ v_ways c K B n ∧ mPl c n K P B U V W nr p m f h' ∧ plSum c n K P B (v_chs np T C B) p m (v_ways c K B n) f := by
    intro k
    induction k with
    | zero =>
      intro i hi h1 m f f1 hm pl ps
      obtain rfl : i = v_ways c K B n := hi
      refine ⟨h1, m, f, ?_, f1, hm, pl, ps⟩
      refine wb_X12_laysPlayed_16 ?_
      rw [if_neg (nI_nlt (Nat.le_refl _) (by omega))]
    | succ k ih =>
      intro i hi h1 m f f1 hm pl ps
      have s1 : mS c n K P B h1 := s.fr f1 rfl
      obtain ⟨h2, r2, f2, o⟩ := sp_lays s1 (Nat.le_refl _) (w := i) (by omega)
      have s2 : mS c n K P B h2 := s1.fr f2 rfl
      have f12 := f1.trans (f2.mono rfl)
      have he : ∀ a, a < n → v_what c K B n i a < 5 := fun a ha => v_what_lt s.1 (Nat.le_refl _) i ha
      have pl2 := pl.fr f2 rfl (fun _ => rfl) (fun _ => rfl) (fun _ => rfl)
      have nxt : ∀ h3 R, XX true 17 217 16 [.ref 153, .int (nI p), .int (nI (v_ways c K B n)), .int (nI (i + 1)), ax_junk, ax_junk] [] (h3) (R) → XX true 17 217 174 [.ref 153, .int (nI p), .int (nI (v_ways c K B n)), .int (nI i), ax_junk, ax_junk] [] (h3) (R) := by
        intro h3 R u
        refine wb_X12_laysPlayed_174 ?_
        rw [nI_s]
        exact wk_X12_laysPlayed_16 u
      have pre : ∀ R, (v_pl K P (v_chs np T C B) p (v_what c K B n i) n = true → XX true 17 217 45 [.ref 153, .int (nI p), .int (nI (v_ways c K B n)), .int (nI i), .int (nI 0), ax_junk] [] (h2) (R)) → (¬ v_pl K P (v_chs np T C B) p (v_what c K B n i) n = true → XX true 17 217 174 [.ref 153, .int (nI p), .int (nI (v_ways c K B n)), .int (nI i), ax_junk, ax_junk] [] (h2) (R)) → XX true 17 217 16 [.ref 153, .int (nI p), .int (nI (v_ways c K B n)), .int (nI i), ax_junk, ax_junk] [] (h1) (R) := by
        intro R x y
        refine wb_X12_laysPlayed_16 ?_
        rw [if_pos (nI_lt (by omega) (by omega)), s1.nn]
        refine (cl_X12_laysPlayed_27 rfl (by decide) (r2)).mpr ?_
        refine wb_X12_laysPlayed_30 ?_
        rw [s2.nn]
        refine (cl_X12_laysPlayed_36 rfl (by decide) (sp_isPlayed s2 (t.fr f12 rfl) (Nat.le_refl _) o (Nat.le_refl _) he (but := p) (b := nI p) (fun x hx => nI_eq (by omega) (by omega)))).mpr ?_
        refine wb_X12_laysPlayed_39 ?_
        by_cases q : v_pl K P (v_chs np T C B) p (v_what c K B n i) n = true
        · rw [b2i_t q, if_neg (by decide)]
          exact wk_X12_laysPlayed_45 (x q)
        · rw [b2i_f q, if_pos rfl]
          exact wk_X12_laysPlayed_174 (y q)
      have es : ∀ g : Nat → Int, sumZ (fun w => if v_pl K P (v_chs np T C B) p (v_what c K B n w) n = true then g w else 0) (i + 1) = sumZ (fun w => if v_pl K P (v_chs np T C B) p (v_what c K B n w) n = true then g w else 0) i + (if v_pl K P (v_chs np T C B) p (v_what c K B n i) n = true then g i else 0) := fun g => rfl
      by_cases q : v_pl K P (v_chs np T C B) p (v_what c K B n i) n = true
      · obtain ⟨h3, a1, a2, a3, a4, a5, a6⟩ := sp_lp_row (U := U) (V := V) (W := W) (nr := nr) (Wn := v_ways c K B n) (f := f) s hp (m := m) (by omega) (w := i) (by omega) n 0 (by omega) h2 f12 (z.fr f12 (fun _ => rfl) (fun _ => rfl) rfl) o pl2 (fun a ha => absurd ha (Nat.not_lt_zero _))
        have s3 : mS c n K P B h3 := s.fr a1 rfl
        have g : fr [(166, none), (153, some 23)] h3 (ax_wr (ax_wr h3 166 m (.int (iI (v_pay U V W c n (v_what c K B n i) p nr)))) 153 23 (.int (nI (m + 1)))) := (fr.wr (by simp [inS])).wr' (by simp [inS])
        obtain ⟨h', m', f', r', b1, b2, b3, b4⟩ := ih (i + 1) (by omega) _ (m + 1) (updN f m i) (a1.trans (g.mono rfl)) (by omega) ⟨by rw [wr_I], fun k' hk' => by
            by_cases e : k' = m
            · rw [e, updN_s]
              refine ⟨by omega, ?_, fun a ha => ?_⟩
              · rw [wr_Ia (by decide), wr_I]
              · rw [g.I rfl, g.I rfl]
                exact a5 a ha
            · rw [updN_o e]
              have u := a4.2 k' (by omega)
              refine ⟨u.1, ?_, fun a ha => ?_⟩
              · rw [wr_Ia (by decide), wr_Ij e]
                exact u.2.1
              · rw [g.I rfl, g.I rfl]
                exact u.2.2 a ha⟩ (fun gg => by
            rw [es gg, if_pos q, ← ps gg]
            show sumZ (fun k => gg (updN f m i k)) m + gg (updN f m i m) = _
            rw [updN_s, sumZ_congr m (fun a ha => congrArg gg (updN_o (f := f) (k := m) (v := i) (i := a) (by omega)))])
        refine ⟨h', m', f', pre _ (fun _ => a6 _ ?_) (fun u => absurd q u), b1, b2, b3, b4⟩
        refine wb_X12_laysPlayed_45 ?_
        rw [s3.nn, if_neg (nI_nlt (Nat.le_refl _) (by omega)), a4.1]
        refine (cl_X12_laysPlayed_160 rfl (by decide) (sp_payOf s3 (w.fr a1 (fun _ => rfl)) (r.fr a1 (fun _ => rfl) rfl) a3 he hp)).mpr ?_
        refine wb_X12_laysPlayed_163 ?_
        rw [ix_nI (by omega), wr_Ia (by decide), a4.1, nI_s]
        exact ⟨in_nI (by omega) (by decide), wk_X12_laysPlayed_174 (nxt _ _ r')⟩
      · obtain ⟨h', m', f', r', b1, b2, b3, b4⟩ := ih (i + 1) (by omega) h2 m f f12 (by omega) pl2 (fun gg => by rw [es gg, if_neg q, Int.add_zero]; exact ps gg)
        exact ⟨h', m', f', pre _ (fun u => absurd u q) (fun _ => nxt _ _ r'), b1, b2, b3, b4⟩
  obtain ⟨h', m, f, r', a, b, d, e⟩ := lp _ 0 (Nat.zero_add _) (ax_wr h 153 23 (.int (nI 0))) 0 id (fr.wr rfl) (Nat.le_refl _) ⟨wr_I _ _ _ _, fun k hk => absurd hk (Nat.not_lt_zero _)⟩ (fun g => rfl)
  have s0 : mS c n K P B (ax_wr h 153 23 (.int (nI 0))) := s.fr (fr.wr (L := [(153, some 23)]) rfl) rfl
  refine ⟨h', m, f, ?_, a, b, d, e⟩
  refine wb_X12_laysPlayed_0 ?_
  rw [s0.nn]
  refine (cl_X12_laysPlayed_10 rfl (by decide) (sp_waysBehind s0 (Nat.le_refl _))).mpr ?_
  refine wb_X12_laysPlayed_13 ?_
  exact wk_X12_laysPlayed_16 r'
end S31
