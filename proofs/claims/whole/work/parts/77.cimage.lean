/-! THE CLASS'S CALLS: an image -/
/-- what lies in the rows of rules, also behind the last -/
def cJ (o : Nat) (h : AH) : Prop := ∀ i, i < 8 → (∃ b, hR h (90 + o) i = rf b ∧ (b = 9 ∨ (181 ≤ b ∧ b < h.2.2.1 ∧ h.2.1 b = 9))) ∧ ∃ b, hR h (91 + o) i = rf b ∧ (b = 9 ∨ (181 ≤ b ∧ b < h.2.2.1 ∧ h.2.1 b = 0))
theorem cJ_fx {k0 o : Nat} {h h' : AH} (s : cJ o h) {L : List (Nat × Option Nat)} (f : fx k0 L h h') (al : 181 ≤ h.2.2.1) (ho : o < 30) (q1 : outS (90 + o) (92 + o) L = true) : cJ o h' := fun i hi => by
  obtain ⟨⟨a, a1, a2⟩, b, b1, b2⟩ := s i hi
  exact ⟨⟨a, (f.R (by omega) (outS_in q1 (by omega) (by omega) _)).trans a1, a2.imp id fun z => ⟨z.1, Nat.lt_of_lt_of_le z.2.1 f.1, (f.2.2.2.2.1 a z.2.1).trans z.2.2⟩⟩, b, (f.R (by omega) (outS_in q1 (by omega) (by omega) _)).trans b1, b2.imp id fun z => ⟨z.1, Nat.lt_of_lt_of_le z.2.1 f.1, (f.2.2.2.2.1 b z.2.1).trans z.2.2⟩⟩
theorem dE_of {h : AH} {b c : Nat} (z : b = 9 ∨ (181 ≤ b ∧ b < h.2.2.1 ∧ h.2.1 b = c)) : dE h b c := z.imp id fun z => ⟨(dyn_dO z.1 z.2.1 z.2.2).2.1, (dyn_dO z.1 z.2.1 z.2.2).2.2⟩
theorem cJ_rule {nr : Nat} {h h' : AH} (s : cJ 0 h) (al : 181 ≤ h.2.2.1) (f : fx 9 (cfRu nr) h h') {U : Nat → Nat → Nat} {V : Nat → Int} {TA AA : Nat → Nat} (r : cR 0 (nr + 1) U V TA AA h') : cJ 0 h' := fun i hi => by
  by_cases e : i = nr
  · have g := r.2.2.2 i (by omega)
    have a := r.2.2.1 i (by omega)
    have b := r.2.1.2 i (by omega)
    exact ⟨⟨_, g.1, Or.inr ⟨a.1, a.2.1, a.2.2.1⟩⟩, _, g.2.1, Or.inr ⟨b.1, b.2.1, b.2.2.1⟩⟩
  · obtain ⟨⟨a, a1, a2⟩, b, b1, b2⟩ := s i hi
    have e' : ¬ nr = i := fun z => e z.symm
    exact ⟨⟨a, (f.R (by omega) (by simp [inS, e, e'])).trans a1, a2.imp id fun z => ⟨z.1, Nat.lt_of_lt_of_le z.2.1 f.1, (f.2.2.2.2.1 a z.2.1).trans z.2.2⟩⟩, b, (f.R (by omega) (by simp [inS, e, e'])).trans b1, b2.imp id fun z => ⟨z.1, Nat.lt_of_lt_of_le z.2.1 f.1, (f.2.2.2.2.1 b z.2.1).trans z.2.2⟩⟩
section S77
variable {c n np nr sk : Nat} {K P B S T C TA AA : Nat → Nat} {U : Nat → Nat → Nat} {V W : Nat → Int} {h h' : AH} {c1 n1 : Nat} {K1 P1 B1 S1 : Nat → Nat}
abbrev cfBt : List (Nat × Option Nat) := (66, some 0) :: (67, none) :: cfTt
theorem sp_t_become (s : tS 29 c n K P B S h) (w : cW 29 W h) (s1 : tS 0 c1 n1 K1 P1 B1 S1 h) : ∃ h', XX true 6 149 0 [.ref 66, .ref 95, ax_junk] [] (h) (none, h') ∧ fr cfBt h h' ∧ tS 0 c n K P B S h' ∧ cW 0 W h' := by
  have h6 := s.n6
  have c5 := s.c5
  obtain ⟨h1, r1, f1, e1, e2, e3⟩ := sp_t_open (h := h) (nI c)
  have F1 : fr cfBt h h1 := f1.mono rfl
  have z1 : tS 0 c 0 K P B S h1 := ⟨⟨c5.1, c5.2, by decide, fun i hi => absurd hi (Nat.not_lt_zero _)⟩, by rw [f1.1]; exact s.al, e1, e2, fun i hi => absurd hi (Nat.not_lt_zero _), fun i hi => absurd hi (Nat.not_lt_zero _), fun i hi => by
    obtain rfl : i = 0 := by omega
    rw [f1.I rfl]
    exact s1.beh 0 (Nat.zero_le _), fun i hi => absurd hi (Nat.not_lt_zero _), fun j hj i hi => absurd hi (by omega)⟩
  have lp2 : ∀ k i, i + k = n → ∀ h2, fr cfBt h h2 → tS 0 c i K P B S h2 → cW 0 W h2 → ∃ h', XX true 6 149 35 [.ref 66, .ref 95, .int (nI i)] [] (h2) ((none, h')) ∧ fr cfBt h h' ∧ tS 0 c n K P B S h' ∧ cW 0 W h' := by
    intro k
    induction k with
    | zero =>
      intro i hi h2 f2 z2 w2
      obtain rfl : i = n := hi
      refine ⟨h2, ?_, f2, z2, w2⟩
      refine wb_X8_become_35 ?_
      rw [(s.fr f2 rfl rfl).nn, if_neg (nI_nlt (Nat.le_refl _) (by omega))]
    | succ k ih =>
      intro i hi h2 f2 z2 w2
      have s2 : tS 29 c n K P B S h2 := s.fr f2 rfl rfl
      have g := s2.st i (by omega)
      have kk := s2.kk (i := i) (by omega)
      obtain ⟨h3, r3, f3, z3⟩ := sp_t_put z2 (by omega) ⟨kk.1, kk.2.1, kk.2.2.1, kk.2.2.2.1⟩ kk.2.2.2.2 g.2
      rw [updN_self, updN_self, updN_self, updN_self] at z3
      obtain ⟨h', x, y⟩ := ih (i + 1) (by omega) h3 (f2.trans (f3.mono rfl)) z3 (cW_fx w2 f3.fx z2.al (by decide) (fun _ => rfl))
      refine ⟨h', ?_, y⟩
      refine wb_X8_become_35 ?_
      rw [s2.nn, if_pos (nI_lt (by omega) (by omega)), ix_nI (by omega)]
      refine ⟨in_nI (by omega) (by decide), _, g.1, ?_⟩
      refine cl_X8_become_50 rfl (by decide) (r3) ?_
      refine wb_X8_become_53 ?_
      rw [nI_s]
      exact x
  have lp1 : ∀ k i, i + k = 5 → ∀ h2, fr cfBt h h2 → tS 0 c 0 K P B S h2 → (∀ a, a < i → hI h2 67 a = iI (W a)) → ∃ h', XX true 6 149 10 [.ref 66, .ref 95, .int (nI i)] [] (h2) ((none, h')) ∧ fr cfBt h h' ∧ tS 0 c n K P B S h' ∧ cW 0 W h' := by
    intro k
    induction k with
    | zero =>
      intro i hi h2 f2 z2 w2
      obtain rfl : i = 5 := hi
      obtain ⟨h', x, y⟩ := lp2 n 0 (by omega) h2 f2 z2 (fun a ha => ⟨w2 a ha, (w a ha).2⟩)
      refine ⟨h', ?_, y⟩
      refine wb_X8_become_10 ?_
      rw [if_neg (by decide)]
      exact x
    | succ k ih =>
      intro i hi h2 f2 z2 w2
      have fw : fr [(67, none)] h2 (ax_wr h2 67 i (.int (iI (W i)))) := fr.wr (by simp [inS])
      have z3 : tS 0 c 0 K P B S (ax_wr h2 67 i (.int (iI (W i)))) := ⟨z2.1, by rw [fw.1]; exact z2.al, (fw.I rfl).trans z2.cc, (fw.I rfl).trans z2.nn, fun i hi => absurd hi (Nat.not_lt_zero _), fun i hi => absurd hi (Nat.not_lt_zero _), fun i hi => by
        obtain rfl : i = 0 := by omega
        exact (fw.I rfl).trans (z2.beh 0 (Nat.zero_le _)), fun i hi => absurd hi (Nat.not_lt_zero _), fun j hj i hi => absurd hi (by omega)⟩
      obtain ⟨h', x, y⟩ := ih (i + 1) (by omega) _ (f2.trans (fw.mono rfl)) z3 (fun a ha => by
          by_cases e : a = i
          · rw [e, wr_I]
          · rw [wr_Ij e]; exact w2 a (by omega))
      refine ⟨h', ?_, y⟩
      refine wb_X8_become_10 ?_
      rw [if_pos (nI_lt (by omega) (by omega)), ix_nI (by omega), nI_s, f2.I rfl, (w i (by omega)).1]
      exact ⟨in_nI (by omega) (by decide), in_nI (by omega) (by decide), x⟩
  obtain ⟨h', x, y⟩ := lp1 5 0 rfl h1 F1 z1 (fun a ha => absurd ha (Nat.not_lt_zero _))
  refine ⟨h', ?_, y⟩
  refine wb_X8_become_0 ?_
  rw [s.cc]
  refine cl_X8_become_5 rfl (by decide) (r1) ?_
  refine wb_X8_become_8 ?_
  exact x
abbrev cfCp : List (Nat × Option Nat) := [(87, some 2), (88, none), (89, none)]
theorem sp_p_become (t : cP 29 np T C h) : ∃ h', XX true 1 150 0 [.ref 87, .ref 116, ax_junk] [] (h) (none, h') ∧ fr cfCp h h' ∧ cP 0 np T C h' := by
  have t40 := t.1
  have lp : ∀ k i, i + k = 40 → ∀ h1, fr cfCp h h1 → hI h1 87 2 = nI np → (∀ a, a < i → hI h1 88 a = hI h 117 a ∧ hI h1 89 a = hI h 118 a) → ∃ h', XX true 1 150 10 [.ref 87, .ref 116, .int (nI i)] [] (h1) ((none, h')) ∧ fr cfCp h h' ∧ cP 0 np T C h' := by
    intro k
    induction k with
    | zero =>
      intro i hi h1 f e1 e2
      obtain rfl : i = 40 := hi
      refine ⟨h1, ?_, f, t40, e1, fun a ha => ⟨(t.2.2 a ha).1, (t.2.2 a ha).2.1, (e2 a (by omega)).1.trans (t.2.2 a ha).2.2.1, (e2 a (by omega)).2.trans (t.2.2 a ha).2.2.2⟩⟩
      refine wb_X3_become_10 ?_
      rw [if_neg (by decide)]
    | succ k ih =>
      intro i hi h1 f e1 e2
      obtain ⟨h', x, y⟩ := ih (i + 1) (by omega) (ax_wr (ax_wr h1 88 i (.int (hI h 117 i))) 89 i (.int (hI h 118 i))) ((f.wr' (by simp [inS])).wr' (by simp [inS])) (by rw [wr_Ia (by decide), wr_Ia (by decide)]; exact e1) (fun a ha => by
        rw [wr_Ia (by decide)]
        by_cases z : a = i
        · rw [z, wr_I, wr_I]; exact ⟨rfl, rfl⟩
        · rw [wr_Ij z, wr_Ij z, wr_Ia (by decide)]; exact e2 a (by omega))
      refine ⟨h', ?_, y⟩
      refine wb_X3_become_10 ?_
      rw [if_pos (nI_lt (by omega) (by omega)), ix_nI (by omega), nI_s, wr_Ia (by decide), f.I rfl, f.I rfl]
      exact ⟨in_nI (by omega) (by decide), in_nI (by omega) (by decide), in_nI (by omega) (by decide), in_nI (by omega) (by decide), x⟩
  obtain ⟨h', x, y⟩ := lp 40 0 rfl (ax_wr h 87 2 (.int (nI np))) (fr.wr rfl) (wr_I _ _ _ _) (fun a ha => absurd ha (Nat.not_lt_zero _))
  refine ⟨h', ?_, y⟩
  refine wb_X3_become_0 ?_
  rw [t.2.1]
  exact x
abbrev cfGg : List (Nat × Option Nat) := (65, some 6) :: (65, some 7) :: (90, none) :: (91, none) :: (92, none) :: (93, none) :: (cfBt ++ cfCp)
theorem sp_g_become (s : tS 29 c n K P B S h) (w : cW 29 W h) (t : cP 29 np T C h) (r : cR 29 nr U V TA AA h) (k : cK 29 sk h) (j : cJ 29 h) (s1 : tS 0 c1 n1 K1 P1 B1 S1 h) : ∃ h', XX true 7 148 0 [.ref 65, .ref 94, ax_junk] [] (h) (none, h') ∧ fr cfGg h h' ∧ tS 0 c n K P B S h' ∧ cW 0 W h' ∧ cP 0 np T C h' ∧ cR 0 nr U V TA AA h' ∧ cK 0 sk h' ∧ cJ 0 h' := by
  have al := s.al
  have h8 := r.2.1.1.1
  obtain ⟨ha, ra, fa, sa, wa⟩ := sp_t_become s w s1
  have ta : cP 29 np T C ha := cP_fr t fa rfl
  obtain ⟨hb, rb, fb, tb⟩ := sp_p_become ta
  have fab : fr (cfBt ++ cfCp) h hb := (fa.mono rfl).trans (fb.mono rfl)
  have sb : tS 0 c n K P B S hb := sa.fr fb rfl rfl
  have wb : cW 0 W hb := cW_fx wa fb.fx sa.al (by decide) (fun _ => rfl)
  have lp : ∀ k' i, i + k' = 8 → ∀ h1, fr [(90, none), (91, none), (92, none), (93, none)] hb h1 → (∀ a, a < i → hR h1 90 a = hR h 119 a ∧ hR h1 91 a = hR h 120 a ∧ hI h1 92 a = hI h 121 a ∧ hI h1 93 a = hI h 122 a) → ∃ h', XX true 7 148 24 [.ref 65, .ref 94, .int (nI i)] [] (h1) ((none, h')) ∧ fr cfGg h h' ∧ tS 0 c n K P B S h' ∧ cW 0 W h' ∧ cP 0 np T C h' ∧ cR 0 nr U V TA AA h' ∧ cK 0 sk h' ∧ cJ 0 h' := by
    intro k'
    induction k' with
    | zero =>
      intro i hi h1 f e2
      obtain rfl : i = 8 := hi
      have F1 : fr cfGg h h1 := (fab.mono rfl).trans (f.mono rfl)
      have F2 : fr [(90, none), (91, none), (92, none), (93, none), (65, some 6), (65, some 7)] hb (ax_wr (ax_wr h1 65 6 (.int (nI nr))) 65 7 (.long (lN sk))) := ((f.mono rfl).wr' rfl).wr' rfl
      have F3 : fr cfGg h (ax_wr (ax_wr h1 65 6 (.int (nI nr))) 65 7 (.long (lN sk))) := (fab.mono rfl).trans (F2.mono rfl)
      have eR : ∀ a, a < 8 → hR (ax_wr (ax_wr h1 65 6 (.int (nI nr))) 65 7 (.long (lN sk))) 90 a = hR h 119 a ∧ hR (ax_wr (ax_wr h1 65 6 (.int (nI nr))) 65 7 (.long (lN sk))) 91 a = hR h 120 a := fun a ha => ⟨by rw [wr_Ra (by decide), wr_Ra (by decide)]; exact (e2 a ha).1, by rw [wr_Ra (by decide), wr_Ra (by decide)]; exact (e2 a ha).2.1⟩
      refine ⟨ax_wr (ax_wr h1 65 6 (.int (nI nr))) 65 7 (.long (lN sk)), ?_, F3, sb.fr F2 rfl rfl, cW_fx wb F2.fx sb.al (by decide) (fun _ => rfl), cP_fr tb F2 rfl, ⟨by rw [wr_Ij (by decide), wr_I], cAm_fx r.2.1 F3.fx rfl, cTe_fx r.2.2.1 F3.fx rfl, fun a ha => ?_⟩, ⟨wr_L _ _ _ _, k.2⟩, fun a ha => ?_⟩
      · refine wb_X1_become_24 ?_
        rw [if_neg (by decide), F1.I rfl, r.1, wr_La (by decide), F1.L rfl, k.1]
      · have g := r.2.2.2 a ha
        have g2 := e2 a (by omega)
        have g3 := eR a (by omega)
        refine ⟨g3.1.trans g.1, g3.2.trans g.2.1, ?_, ?_⟩
        · rw [wr_Ia (by decide), wr_Ia (by decide)]; exact g2.2.2.1.trans g.2.2.1
        · rw [wr_Ia (by decide), wr_Ia (by decide)]; exact g2.2.2.2.trans g.2.2.2
      · obtain ⟨⟨x, x1, x2⟩, y, y1, y2⟩ := j a ha
        have g3 := eR a ha
        exact ⟨⟨x, g3.1.trans x1, x2.imp id fun z => ⟨z.1, Nat.lt_of_lt_of_le z.2.1 F3.fx.1, (F3.fx.2.2.2.2.1 x z.2.1).trans z.2.2⟩⟩, y, g3.2.trans y1, y2.imp id fun z => ⟨z.1, Nat.lt_of_lt_of_le z.2.1 F3.fx.1, (F3.fx.2.2.2.2.1 y z.2.1).trans z.2.2⟩⟩
    | succ k' ih =>
      intro i hi h1 f e2
      have F1 : fr cfGg h h1 := (fab.mono rfl).trans (f.mono rfl)
      obtain ⟨⟨x, x1, x2⟩, y, y1, y2⟩ := j i (by omega)
      have q1 : hR h1 119 i = rf x := (F1.R rfl).trans x1
      have q2 : hR (ax_wr h1 90 i (rf x)) 120 i = rf y := (wr_Ra (by decide)).trans ((F1.R rfl).trans y1)
      have dx : dE h1 x 9 := dE_of (x2.imp id fun z => ⟨z.1, Nat.lt_of_lt_of_le z.2.1 F1.fx.1, (F1.fx.2.2.2.2.1 x z.2.1).trans z.2.2⟩)
      have dy : dE (ax_wr h1 90 i (rf x)) y 0 := dE_of (y2.imp id fun z => ⟨z.1, Nat.lt_of_lt_of_le z.2.1 F1.fx.1, (F1.fx.2.2.2.2.1 y z.2.1).trans z.2.2⟩)
      obtain ⟨h', u, v⟩ := ih (i + 1) (by omega) (ax_wr (ax_wr (ax_wr (ax_wr h1 90 i (rf x)) 91 i (rf y)) 92 i (.int (hI h 121 i))) 93 i (.int (hI h 122 i))) ((((f.wr' (by simp [inS])).wr' (by simp [inS])).wr' (by simp [inS])).wr' (by simp [inS])) (fun a ha => by
        by_cases z : a = i
        · rw [z]
          refine ⟨?_, ?_, ?_, ?_⟩
          · rw [wr_Ra (by decide), wr_Ra (by decide), wr_Ra (by decide), wr_R, toR_rf]; exact x1.symm
          · rw [wr_Ra (by decide), wr_Ra (by decide), wr_R, toR_rf]; exact y1.symm
          · rw [wr_Ia (by decide), wr_I]
          · rw [wr_I]
        · have g := e2 a (by omega)
          refine ⟨?_, ?_, ?_, ?_⟩
          · rw [wr_Ra (by decide), wr_Ra (by decide), wr_Ra (by decide), wr_Rj z]; exact g.1
          · rw [wr_Ra (by decide), wr_Ra (by decide), wr_Rj z, wr_Ra (by decide)]; exact g.2.1
          · rw [wr_Ia (by decide), wr_Ij z, wr_Ia (by decide), wr_Ia (by decide)]; exact g.2.2.1
          · rw [wr_Ij z, wr_Ia (by decide), wr_Ia (by decide), wr_Ia (by decide)]; exact g.2.2.2)
      refine ⟨h', ?_, v⟩
      refine wb_X1_become_24 ?_
      simp only [ix_nI (show i < 2 ^ 31 by omega)]
      rw [if_pos (nI_lt (by omega) (by omega)), nI_s]
      refine ⟨in_nI (by omega) (by decide), x, q1, in_nI (by omega) (by decide), dx, in_nI (by omega) (by decide), y, q2, in_nI (by omega) (by decide), dy, in_nI (by omega) (by decide), in_nI (by omega) (by decide), in_nI (by omega) (by decide), in_nI (by omega) (by decide), ?_⟩
      have j1 : hI (ax_wr (ax_wr h1 90 i (rf x)) 91 i (rf y)) 121 i = hI h 121 i := (wr_Ia (by decide)).trans ((wr_Ia (by decide)).trans (F1.I rfl))
      have j2 : hI (ax_wr (ax_wr (ax_wr h1 90 i (rf x)) 91 i (rf y)) 92 i (.int (hI h 121 i))) 122 i = hI h 122 i := (wr_Ia (by decide)).trans ((wr_Ia (by decide)).trans ((wr_Ia (by decide)).trans (F1.I rfl)))
      rw [j1, j2]
      exact u
  obtain ⟨h', u, v⟩ := lp 8 0 rfl hb fr.rfl' (fun a ha => absurd ha (Nat.not_lt_zero _))
  refine ⟨h', ?_, v⟩
  refine wb_X1_become_0 ?_
  refine cl_X1_become_8 rfl (by decide) (ra) ?_
  refine wb_X1_become_11 ?_
  refine cl_X1_become_19 rfl (by decide) (rb) ?_
  refine wb_X1_become_22 ?_
  exact u
abbrev cfBtK : List (Nat × Option Nat) := (95, some 0) :: (96, none) :: cfTtK
theorem sp_tK_become (s : tS 0 c n K P B S h) (w : cW 0 W h) (s1 : tS 29 c1 n1 K1 P1 B1 S1 h) : ∃ h', XX true 6 149 0 [.ref 95, .ref 66, ax_junk] [] (h) (none, h') ∧ fr cfBtK h h' ∧ tS 29 c n K P B S h' ∧ cW 29 W h' := by
  have h6 := s.n6
  have c5 := s.c5
  obtain ⟨h1, r1, f1, e1, e2, e3⟩ := sp_tK_open (h := h) (nI c)
  have F1 : fr cfBtK h h1 := f1.mono rfl
  have z1 : tS 29 c 0 K P B S h1 := ⟨⟨c5.1, c5.2, by decide, fun i hi => absurd hi (Nat.not_lt_zero _)⟩, by rw [f1.1]; exact s.al, e1, e2, fun i hi => absurd hi (Nat.not_lt_zero _), fun i hi => absurd hi (Nat.not_lt_zero _), fun i hi => by
    obtain rfl : i = 0 := by omega
    rw [f1.I rfl]
    exact s1.beh 0 (Nat.zero_le _), fun i hi => absurd hi (Nat.not_lt_zero _), fun j hj i hi => absurd hi (by omega)⟩
  have lp2 : ∀ k i, i + k = n → ∀ h2, fr cfBtK h h2 → tS 29 c i K P B S h2 → cW 29 W h2 → ∃ h', XX true 6 149 35 [.ref 95, .ref 66, .int (nI i)] [] (h2) ((none, h')) ∧ fr cfBtK h h' ∧ tS 29 c n K P B S h' ∧ cW 29 W h' := by
    intro k
    induction k with
    | zero =>
      intro i hi h2 f2 z2 w2
      obtain rfl : i = n := hi
      refine ⟨h2, ?_, f2, z2, w2⟩
      refine wb_X8_becomeK_35 ?_
      rw [(s.fr f2 rfl rfl).nn, if_neg (nI_nlt (Nat.le_refl _) (by omega))]
    | succ k ih =>
      intro i hi h2 f2 z2 w2
      have s2 : tS 0 c n K P B S h2 := s.fr f2 rfl rfl
      have g := s2.st i (by omega)
      have kk := s2.kk (i := i) (by omega)
      obtain ⟨h3, r3, f3, z3⟩ := sp_tK_put z2 (by omega) ⟨kk.1, kk.2.1, kk.2.2.1, kk.2.2.2.1⟩ kk.2.2.2.2 g.2
      rw [updN_self, updN_self, updN_self, updN_self] at z3
      obtain ⟨h', x, y⟩ := ih (i + 1) (by omega) h3 (f2.trans (f3.mono rfl)) z3 (cW_fx w2 f3.fx z2.al (by decide) (fun _ => rfl))
      refine ⟨h', ?_, y⟩
      refine wb_X8_becomeK_35 ?_
      rw [s2.nn, if_pos (nI_lt (by omega) (by omega)), ix_nI (by omega)]
      refine ⟨in_nI (by omega) (by decide), _, g.1, ?_⟩
      refine cl_X8_becomeK_50 rfl (by decide) (r3) ?_
      refine wb_X8_becomeK_53 ?_
      rw [nI_s]
      exact x
  have lp1 : ∀ k i, i + k = 5 → ∀ h2, fr cfBtK h h2 → tS 29 c 0 K P B S h2 → (∀ a, a < i → hI h2 96 a = iI (W a)) → ∃ h', XX true 6 149 10 [.ref 95, .ref 66, .int (nI i)] [] (h2) ((none, h')) ∧ fr cfBtK h h' ∧ tS 29 c n K P B S h' ∧ cW 29 W h' := by
    intro k
    induction k with
    | zero =>
      intro i hi h2 f2 z2 w2
      obtain rfl : i = 5 := hi
      obtain ⟨h', x, y⟩ := lp2 n 0 (by omega) h2 f2 z2 (fun a ha => ⟨w2 a ha, (w a ha).2⟩)
      refine ⟨h', ?_, y⟩
      refine wb_X8_becomeK_10 ?_
      rw [if_neg (by decide)]
      exact x
    | succ k ih =>
      intro i hi h2 f2 z2 w2
      have fw : fr [(96, none)] h2 (ax_wr h2 96 i (.int (iI (W i)))) := fr.wr (by simp [inS])
      have z3 : tS 29 c 0 K P B S (ax_wr h2 96 i (.int (iI (W i)))) := ⟨z2.1, by rw [fw.1]; exact z2.al, (fw.I rfl).trans z2.cc, (fw.I rfl).trans z2.nn, fun i hi => absurd hi (Nat.not_lt_zero _), fun i hi => absurd hi (Nat.not_lt_zero _), fun i hi => by
        obtain rfl : i = 0 := by omega
        exact (fw.I rfl).trans (z2.beh 0 (Nat.zero_le _)), fun i hi => absurd hi (Nat.not_lt_zero _), fun j hj i hi => absurd hi (by omega)⟩
      obtain ⟨h', x, y⟩ := ih (i + 1) (by omega) _ (f2.trans (fw.mono rfl)) z3 (fun a ha => by
          by_cases e : a = i
          · rw [e, wr_I]
          · rw [wr_Ij e]; exact w2 a (by omega))
      refine ⟨h', ?_, y⟩
      refine wb_X8_becomeK_10 ?_
      rw [if_pos (nI_lt (by omega) (by omega)), ix_nI (by omega), nI_s, f2.I rfl, (w i (by omega)).1]
      exact ⟨in_nI (by omega) (by decide), in_nI (by omega) (by decide), x⟩
  obtain ⟨h', x, y⟩ := lp1 5 0 rfl h1 F1 z1 (fun a ha => absurd ha (Nat.not_lt_zero _))
  refine ⟨h', ?_, y⟩
  refine wb_X8_becomeK_0 ?_
  rw [s.cc]
  refine cl_X8_becomeK_5 rfl (by decide) (r1) ?_
  refine wb_X8_becomeK_8 ?_
  exact x
abbrev cfCpK : List (Nat × Option Nat) := [(116, some 2), (117, none), (118, none)]
theorem sp_pK_become (t : cP 0 np T C h) : ∃ h', XX true 1 150 0 [.ref 116, .ref 87, ax_junk] [] (h) (none, h') ∧ fr cfCpK h h' ∧ cP 29 np T C h' := by
  have t40 := t.1
  have lp : ∀ k i, i + k = 40 → ∀ h1, fr cfCpK h h1 → hI h1 116 2 = nI np → (∀ a, a < i → hI h1 117 a = hI h 88 a ∧ hI h1 118 a = hI h 89 a) → ∃ h', XX true 1 150 10 [.ref 116, .ref 87, .int (nI i)] [] (h1) ((none, h')) ∧ fr cfCpK h h' ∧ cP 29 np T C h' := by
    intro k
    induction k with
    | zero =>
      intro i hi h1 f e1 e2
      obtain rfl : i = 40 := hi
      refine ⟨h1, ?_, f, t40, e1, fun a ha => ⟨(t.2.2 a ha).1, (t.2.2 a ha).2.1, (e2 a (by omega)).1.trans (t.2.2 a ha).2.2.1, (e2 a (by omega)).2.trans (t.2.2 a ha).2.2.2⟩⟩
      refine wb_X3_becomeK_10 ?_
      rw [if_neg (by decide)]
    | succ k ih =>
      intro i hi h1 f e1 e2
      obtain ⟨h', x, y⟩ := ih (i + 1) (by omega) (ax_wr (ax_wr h1 117 i (.int (hI h 88 i))) 118 i (.int (hI h 89 i))) ((f.wr' (by simp [inS])).wr' (by simp [inS])) (by rw [wr_Ia (by decide), wr_Ia (by decide)]; exact e1) (fun a ha => by
        rw [wr_Ia (by decide)]
        by_cases z : a = i
        · rw [z, wr_I, wr_I]; exact ⟨rfl, rfl⟩
        · rw [wr_Ij z, wr_Ij z, wr_Ia (by decide)]; exact e2 a (by omega))
      refine ⟨h', ?_, y⟩
      refine wb_X3_becomeK_10 ?_
      rw [if_pos (nI_lt (by omega) (by omega)), ix_nI (by omega), nI_s, wr_Ia (by decide), f.I rfl, f.I rfl]
      exact ⟨in_nI (by omega) (by decide), in_nI (by omega) (by decide), in_nI (by omega) (by decide), in_nI (by omega) (by decide), x⟩
  obtain ⟨h', x, y⟩ := lp 40 0 rfl (ax_wr h 116 2 (.int (nI np))) (fr.wr rfl) (wr_I _ _ _ _) (fun a ha => absurd ha (Nat.not_lt_zero _))
  refine ⟨h', ?_, y⟩
  refine wb_X3_becomeK_0 ?_
  rw [t.2.1]
  exact x
abbrev cfGgK : List (Nat × Option Nat) := (94, some 6) :: (94, some 7) :: (119, none) :: (120, none) :: (121, none) :: (122, none) :: (cfBtK ++ cfCpK)
theorem sp_gK_become (s : tS 0 c n K P B S h) (w : cW 0 W h) (t : cP 0 np T C h) (r : cR 0 nr U V TA AA h) (k : cK 0 sk h) (j : cJ 0 h) (s1 : tS 29 c1 n1 K1 P1 B1 S1 h) : ∃ h', XX true 7 148 0 [.ref 94, .ref 65, ax_junk] [] (h) (none, h') ∧ fr cfGgK h h' ∧ tS 29 c n K P B S h' ∧ cW 29 W h' ∧ cP 29 np T C h' ∧ cR 29 nr U V TA AA h' ∧ cK 29 sk h' ∧ cJ 29 h' := by
  have al := s.al
  have h8 := r.2.1.1.1
  obtain ⟨ha, ra, fa, sa, wa⟩ := sp_tK_become s w s1
  have ta : cP 0 np T C ha := cP_fr t fa rfl
  obtain ⟨hb, rb, fb, tb⟩ := sp_pK_become ta
  have fab : fr (cfBtK ++ cfCpK) h hb := (fa.mono rfl).trans (fb.mono rfl)
  have sb : tS 29 c n K P B S hb := sa.fr fb rfl rfl
  have wb : cW 29 W hb := cW_fx wa fb.fx sa.al (by decide) (fun _ => rfl)
  have lp : ∀ k' i, i + k' = 8 → ∀ h1, fr [(119, none), (120, none), (121, none), (122, none)] hb h1 → (∀ a, a < i → hR h1 119 a = hR h 90 a ∧ hR h1 120 a = hR h 91 a ∧ hI h1 121 a = hI h 92 a ∧ hI h1 122 a = hI h 93 a) → ∃ h', XX true 7 148 24 [.ref 94, .ref 65, .int (nI i)] [] (h1) ((none, h')) ∧ fr cfGgK h h' ∧ tS 29 c n K P B S h' ∧ cW 29 W h' ∧ cP 29 np T C h' ∧ cR 29 nr U V TA AA h' ∧ cK 29 sk h' ∧ cJ 29 h' := by
    intro k'
    induction k' with
    | zero =>
      intro i hi h1 f e2
      obtain rfl : i = 8 := hi
      have F1 : fr cfGgK h h1 := (fab.mono rfl).trans (f.mono rfl)
      have F2 : fr [(119, none), (120, none), (121, none), (122, none), (94, some 6), (94, some 7)] hb (ax_wr (ax_wr h1 94 6 (.int (nI nr))) 94 7 (.long (lN sk))) := ((f.mono rfl).wr' rfl).wr' rfl
      have F3 : fr cfGgK h (ax_wr (ax_wr h1 94 6 (.int (nI nr))) 94 7 (.long (lN sk))) := (fab.mono rfl).trans (F2.mono rfl)
      have eR : ∀ a, a < 8 → hR (ax_wr (ax_wr h1 94 6 (.int (nI nr))) 94 7 (.long (lN sk))) 119 a = hR h 90 a ∧ hR (ax_wr (ax_wr h1 94 6 (.int (nI nr))) 94 7 (.long (lN sk))) 120 a = hR h 91 a := fun a ha => ⟨by rw [wr_Ra (by decide), wr_Ra (by decide)]; exact (e2 a ha).1, by rw [wr_Ra (by decide), wr_Ra (by decide)]; exact (e2 a ha).2.1⟩
      refine ⟨ax_wr (ax_wr h1 94 6 (.int (nI nr))) 94 7 (.long (lN sk)), ?_, F3, sb.fr F2 rfl rfl, cW_fx wb F2.fx sb.al (by decide) (fun _ => rfl), cP_fr tb F2 rfl, ⟨by rw [wr_Ij (by decide), wr_I], cAm_fx r.2.1 F3.fx rfl, cTe_fx r.2.2.1 F3.fx rfl, fun a ha => ?_⟩, ⟨wr_L _ _ _ _, k.2⟩, fun a ha => ?_⟩
      · refine wb_X1_becomeK_24 ?_
        rw [if_neg (by decide), F1.I rfl, r.1, wr_La (by decide), F1.L rfl, k.1]
      · have g := r.2.2.2 a ha
        have g2 := e2 a (by omega)
        have g3 := eR a (by omega)
        refine ⟨g3.1.trans g.1, g3.2.trans g.2.1, ?_, ?_⟩
        · rw [wr_Ia (by decide), wr_Ia (by decide)]; exact g2.2.2.1.trans g.2.2.1
        · rw [wr_Ia (by decide), wr_Ia (by decide)]; exact g2.2.2.2.trans g.2.2.2
      · obtain ⟨⟨x, x1, x2⟩, y, y1, y2⟩ := j a ha
        have g3 := eR a ha
        exact ⟨⟨x, g3.1.trans x1, x2.imp id fun z => ⟨z.1, Nat.lt_of_lt_of_le z.2.1 F3.fx.1, (F3.fx.2.2.2.2.1 x z.2.1).trans z.2.2⟩⟩, y, g3.2.trans y1, y2.imp id fun z => ⟨z.1, Nat.lt_of_lt_of_le z.2.1 F3.fx.1, (F3.fx.2.2.2.2.1 y z.2.1).trans z.2.2⟩⟩
    | succ k' ih =>
      intro i hi h1 f e2
      have F1 : fr cfGgK h h1 := (fab.mono rfl).trans (f.mono rfl)
      obtain ⟨⟨x, x1, x2⟩, y, y1, y2⟩ := j i (by omega)
      have q1 : hR h1 90 i = rf x := (F1.R rfl).trans x1
      have q2 : hR (ax_wr h1 119 i (rf x)) 91 i = rf y := (wr_Ra (by decide)).trans ((F1.R rfl).trans y1)
      have dx : dE h1 x 9 := dE_of (x2.imp id fun z => ⟨z.1, Nat.lt_of_lt_of_le z.2.1 F1.fx.1, (F1.fx.2.2.2.2.1 x z.2.1).trans z.2.2⟩)
      have dy : dE (ax_wr h1 119 i (rf x)) y 0 := dE_of (y2.imp id fun z => ⟨z.1, Nat.lt_of_lt_of_le z.2.1 F1.fx.1, (F1.fx.2.2.2.2.1 y z.2.1).trans z.2.2⟩)
      obtain ⟨h', u, v⟩ := ih (i + 1) (by omega) (ax_wr (ax_wr (ax_wr (ax_wr h1 119 i (rf x)) 120 i (rf y)) 121 i (.int (hI h 92 i))) 122 i (.int (hI h 93 i))) ((((f.wr' (by simp [inS])).wr' (by simp [inS])).wr' (by simp [inS])).wr' (by simp [inS])) (fun a ha => by
        by_cases z : a = i
        · rw [z]
          refine ⟨?_, ?_, ?_, ?_⟩
          · rw [wr_Ra (by decide), wr_Ra (by decide), wr_Ra (by decide), wr_R, toR_rf]; exact x1.symm
          · rw [wr_Ra (by decide), wr_Ra (by decide), wr_R, toR_rf]; exact y1.symm
          · rw [wr_Ia (by decide), wr_I]
          · rw [wr_I]
        · have g := e2 a (by omega)
          refine ⟨?_, ?_, ?_, ?_⟩
          · rw [wr_Ra (by decide), wr_Ra (by decide), wr_Ra (by decide), wr_Rj z]; exact g.1
          · rw [wr_Ra (by decide), wr_Ra (by decide), wr_Rj z, wr_Ra (by decide)]; exact g.2.1
          · rw [wr_Ia (by decide), wr_Ij z, wr_Ia (by decide), wr_Ia (by decide)]; exact g.2.2.1
          · rw [wr_Ij z, wr_Ia (by decide), wr_Ia (by decide), wr_Ia (by decide)]; exact g.2.2.2)
      refine ⟨h', ?_, v⟩
      refine wb_X1_becomeK_24 ?_
      simp only [ix_nI (show i < 2 ^ 31 by omega)]
      rw [if_pos (nI_lt (by omega) (by omega)), nI_s]
      refine ⟨in_nI (by omega) (by decide), x, q1, in_nI (by omega) (by decide), dx, in_nI (by omega) (by decide), y, q2, in_nI (by omega) (by decide), dy, in_nI (by omega) (by decide), in_nI (by omega) (by decide), in_nI (by omega) (by decide), in_nI (by omega) (by decide), ?_⟩
      have j1 : hI (ax_wr (ax_wr h1 119 i (rf x)) 120 i (rf y)) 92 i = hI h 92 i := (wr_Ia (by decide)).trans ((wr_Ia (by decide)).trans (F1.I rfl))
      have j2 : hI (ax_wr (ax_wr (ax_wr h1 119 i (rf x)) 120 i (rf y)) 121 i (.int (hI h 92 i))) 93 i = hI h 93 i := (wr_Ia (by decide)).trans ((wr_Ia (by decide)).trans ((wr_Ia (by decide)).trans (F1.I rfl)))
      rw [j1, j2]
      exact u
  obtain ⟨h', u, v⟩ := lp 8 0 rfl hb fr.rfl' (fun a ha => absurd ha (Nat.not_lt_zero _))
  refine ⟨h', ?_, v⟩
  refine wb_X1_becomeK_0 ?_
  refine cl_X1_becomeK_8 rfl (by decide) (ra) ?_
  refine wb_X1_becomeK_11 ?_
  refine cl_X1_becomeK_19 rfl (by decide) (rb) ?_
  refine wb_X1_becomeK_22 ?_
  exact u
abbrev cfIm : List (Nat × Option Nat) := (64, some 2) :: cfGgK
theorem co_image (s : tS 0 c n K P B S h) (w : cW 0 W h) (t : cP 0 np T C h) (r : cR 0 nr U V TA AA h) (k : cK 0 sk h) (j : cJ 0 h) (s1 : tS 29 c1 n1 K1 P1 B1 S1 h) : ∃ h', XX true 8 147 0 [.ref 64] [] (h) (some (.int (nI n)), h') ∧ fr cfIm h h' ∧ hI h' 64 2 = nI 1 ∧ tS 29 c n K P B S h' ∧ cW 29 W h' ∧ cP 29 np T C h' ∧ cR 29 nr U V TA AA h' ∧ cK 29 sk h' ∧ cJ 29 h' := by
  obtain ⟨h1, r1, f1, sa, wa, ta, ra, ka, ja⟩ := sp_gK_become s w t r k j s1
  have f2 : fr [(64, some 2)] h1 (ax_wr h1 64 2 (.int (nI 1))) := fr.wr rfl
  refine ⟨_, ?_, (f1.mono rfl).trans (f2.mono rfl), wr_I _ _ _ _, sa.fr f2 rfl rfl, cW_fx wa f2.fx sa.al (by decide) (fun _ => rfl), cP_fr ta f2 rfl, cR_fx ra f2.fx sa.al (by decide) rfl rfl rfl, ⟨(f2.L rfl).trans ka.1, ka.2⟩, cJ_fx ja f2.fx sa.al (by decide) rfl⟩
  refine wb_X11_image_0 ?_
  refine cl_X11_image_8 rfl (by decide) (r1) ?_
  refine wb_X11_image_11 ?_
  rw [wr_Ia (by decide), f1.I rfl, s.nn]
theorem co_back0 (z : hI h 64 2 = nI 0) : XX true 8 151 0 [.ref 64] [] (h) (some (.int (-nI 3)), h) := by
  refine wb_X11_back_0 ?_
  rw [z, if_pos rfl]
theorem co_back (z : hI h 64 2 = nI 1) (s : tS 29 c n K P B S h) (w : cW 29 W h) (t : cP 29 np T C h) (r : cR 29 nr U V TA AA h) (k : cK 29 sk h) (j : cJ 29 h) (s1 : tS 0 c1 n1 K1 P1 B1 S1 h) : ∃ h', XX true 8 151 0 [.ref 64] [] (h) (some (.int (nI n)), h') ∧ fr cfGg h h' ∧ tS 0 c n K P B S h' ∧ cW 0 W h' ∧ cP 0 np T C h' ∧ cR 0 nr U V TA AA h' ∧ cK 0 sk h' ∧ cJ 0 h' := by
  obtain ⟨h1, r1, f1, sa, wa, ta, ra, ka, ja⟩ := sp_g_become s w t r k j s1
  refine ⟨_, ?_, f1, sa, wa, ta, ra, ka, ja⟩
  refine wb_X11_back_0 ?_
  rw [z, if_neg (by decide)]
  refine cl_X11_back_18 rfl (by decide) (r1) ?_
  refine wb_X11_back_21 ?_
  rw [sa.nn]
end S77
