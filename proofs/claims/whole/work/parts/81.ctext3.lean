/-! THE CLASS: a text -/
def a_text (n : Nat) (x : Nat × Nat × (Nat → Nat) × (Nat → Nat) × (Nat → Nat)) : Int32 := if x.1 = 1 then nI (x.2.1 - n) else -nI 100 - nI x.2.1
abbrev cfTx : List (Nat × Option Nat) := (136, some 1) :: cfSt
section S81
variable {c n tn : Nat} {K P B S : Nat → Nat} {tb : Nat → Int32} {h h' : AH}
theorem fx_tp {k0 : Nat} {h h' : AH} (s : cTp tn tb h) (f : fx k0 cfSt h h') (al : 181 ≤ h.2.2.1) : cTp tn tb h' := cTp_fx s f al (fun _ => rfl) rfl
theorem sp_readLoop (t120 : tn ≤ 120) : ∀ m a i, a ≤ tn → ∀ n K P B S h, n + m = 7 → i + m ≤ 100 → tS 0 c n K P B S h → cTp tn tb h → hI h 136 4 = nI a → ∃ h' S', fx (3 * m) cfSt h h' ∧ ((v_txt tb tn c m a n K P B).1 = 1 → (XX true 9 110 9 [.ref 136, .ref 66, .int (nI 1), .int (nI i)] [] (h) ((some (.int (-nI 1)), ax_wr h' 136 1 (.int (nI 0))))) ∧ tS 0 c (v_txt tb tn c m a n K P B).2.1 (v_txt tb tn c m a n K P B).2.2.1 (v_txt tb tn c m a n K P B).2.2.2.1 (v_txt tb tn c m a n K P B).2.2.2.2 S' h' ∧ n ≤ (v_txt tb tn c m a n K P B).2.1) ∧ ((v_txt tb tn c m a n K P B).1 ≠ 1 → (XX true 9 110 9 [.ref 136, .ref 66, .int (nI 1), .int (nI i)] [] (h) ((some (.int (nI (v_txt tb tn c m a n K P B).2.1)), ax_wr h' 136 1 (.int (nI 0))))) ∧ (∃ n' , n ≤ n' ∧ tS 0 c n' (v_txt tb tn c m a n K P B).2.2.1 (v_txt tb tn c m a n K P B).2.2.2.1 (v_txt tb tn c m a n K P B).2.2.2.2 S' h' ∧ ∀ x, x < n → (v_txt tb tn c m a n K P B).2.2.1 x = K x ∧ (v_txt tb tn c m a n K P B).2.2.2.1 x = P x ∧ (v_txt tb tn c m a n K P B).2.2.2.2 x = B x) ∧ (v_txt tb tn c m a n K P B).2.1 ≤ tn) := by
  intro m
  induction m with
  | zero =>
    intro a i ha n K P B S h hn hi s t e
    exact absurd s.n6 (by omega)
  | succ m ih =>
    intro a i ha n K P B S h hn hi s t e
    have al := s.al
    have h6 := s.n6
    obtain ⟨h1, r1, f1, k1⟩ := sp_advance t ha e
    have t1 : cTp tn tb h1 := cTp_fr t f1 (fun _ => rfl) rfl
    have s1 : tS 0 c n K P B S h1 := s.fr f1 rfl rfl
    have f1x : fx 0 cfSt h h1 := (f1.mono rfl).fx (L := cfSt)
    have g := sp_readStatement s1 t1 k1
    have st_le : (v_stm tb tn c n K (v_f tb tn a)).1 ≠ 1 → (v_stm tb tn c n K (v_f tb tn a)).2.1 ≤ tn := by
      intro _
      have l1 := v_f_le (tb := tb) ha
      have l2 := v_e_le (tb := tb) l1.2
      unfold v_stm
      dsimp only
      split
      · split
        · split
          · exact (arg_le (arg_le l2.2).2).2
          · exact (arg_le (arg_le l2.2).2).2
        · exact (arg_le l2.2).2
      · exact l1.2
    have e : v_txt tb tn c (m + 1) a n K P B = if (v_stm tb tn c n K (v_f tb tn a)).1 = 1 then (if v_cl tb tn (v_f tb tn (v_stm tb tn c n K (v_f tb tn a)).2.1) = 3 then v_txt tb tn c m (v_e tb tn (v_f tb tn (v_stm tb tn c n K (v_f tb tn a)).2.1)) (n + 1) (updN K n (v_stm tb tn c n K (v_f tb tn a)).2.2.1) (updN P n (v_stm tb tn c n K (v_f tb tn a)).2.2.2.1) (updN B n (v_stm tb tn c n K (v_f tb tn a)).2.2.2.2) else if v_f tb tn (v_stm tb tn c n K (v_f tb tn a)).2.1 = tn then (1, n + 1, updN K n (v_stm tb tn c n K (v_f tb tn a)).2.2.1, updN P n (v_stm tb tn c n K (v_f tb tn a)).2.2.2.1, updN B n (v_stm tb tn c n K (v_f tb tn a)).2.2.2.2) else (0, v_f tb tn (v_stm tb tn c n K (v_f tb tn a)).2.1, updN K n (v_stm tb tn c n K (v_f tb tn a)).2.2.1, updN P n (v_stm tb tn c n K (v_f tb tn a)).2.2.2.1, updN B n (v_stm tb tn c n K (v_f tb tn a)).2.2.2.2)) else (0, (v_stm tb tn c n K (v_f tb tn a)).2.1, K, P, B) := rfl
    rw [e]
    clear e
    generalize v_stm tb tn c n K (v_f tb tn a) = x at g st_le ⊢
    have pre : ∀ R, XX true 9 110 23 [.ref 136, .ref 66, ax_junk, .int (nI i)] [] (h1) (R) → XX true 9 110 9 [.ref 136, .ref 66, .int (nI 1), .int (nI i)] [] (h) (R) := by
      intro R u
      refine wb_X9_readInto_9 ?_
      rw [if_pos (nI_le (by omega) (by omega)), if_neg (by decide)]
      refine cl_X9_readInto_20 rfl (by decide) (r1) ?_
      exact wkj u
    by_cases x1 : x.1 = 1
    · rw [if_pos x1]
      obtain ⟨h2, S2, r2, f2, s2, pl, k2, n6⟩ := g.1 x1
      have t2 : cTp tn tb h2 := fx_tp t1 f2 s1.al
      have f12 : fx 3 cfSt h h2 := (f1x.trans f2).mono rfl (by decide)
      have c4 := v_cl_4 tb tn (v_f tb tn x.2.1)
      have up : ∀ (F : Nat → Nat) v y, y < n → updN F n v y = F y := fun F v y hy => updN_o (by omega)
      by_cases c3 : v_cl tb tn (v_f tb tn x.2.1) = 3
      · rw [if_pos c3]
        obtain ⟨h', S', f', g1, g2⟩ := ih (v_e tb tn (v_f tb tn x.2.1)) (i + 1) (v_e_le (tb := tb) k2.1).2 (n + 1) _ _ _ S2 h2 (by omega) (by omega) s2 t2 k2.2.2.1
        refine ⟨h', S', (f12.trans f').mono rfl (by omega), fun z => ?_, fun z => ?_⟩
        · obtain ⟨y1, y2, y3⟩ := g1 z
          refine ⟨pre _ ?_, y2, by omega⟩
          refine wb_X9_readInto_23 ?_
          refine cl_X9_readInto_25 rfl (by decide) (r2) ?_
          refine wb_X9_readInto_28 ?_
          rw [k2.2.2.2.1, if_pos (congrArg nI c3), nI_s]
          exact y1
        · obtain ⟨y1, ⟨n', y2, y3, y4⟩, y5⟩ := g2 z
          refine ⟨pre _ ?_, ⟨n', by omega, y3, fun q hq => ?_⟩, y5⟩
          · refine wb_X9_readInto_23 ?_
            refine cl_X9_readInto_25 rfl (by decide) (r2) ?_
            refine wb_X9_readInto_28 ?_
            rw [k2.2.2.2.1, if_pos (congrArg nI c3), nI_s]
            exact y1
          · have := y4 q (by omega)
            rw [up _ _ _ hq, up _ _ _ hq, up _ _ _ hq] at this
            exact this
      · rw [if_neg c3]
        have p2 : ∀ R, XX true 9 110 46 [.ref 136, ax_junk, .int (nI 1), ax_junk] [] (h2) (R) → XX true 9 110 9 [.ref 136, .ref 66, .int (nI 1), .int (nI i)] [] (h) (R) := by
          intro R u
          refine pre _ ?_
          refine wb_X9_readInto_23 ?_
          refine cl_X9_readInto_25 rfl (by decide) (r2) ?_
          refine wb_X9_readInto_28 ?_
          rw [k2.2.2.2.1, if_neg (fun z => c3 ((nI_eq (by omega) (by omega)).mp z))]
          exact wkj u
        by_cases q : v_f tb tn x.2.1 = tn
        · have c0 : v_cl tb tn (v_f tb tn x.2.1) = 0 := if_neg (by omega)
          rw [if_pos q]
          refine ⟨h2, S2, f12.mono rfl (by omega), fun _ => ⟨p2 _ ?_, s2, Nat.le_succ _⟩, fun z => absurd rfl z⟩
          refine wb_X9_readInto_46 ?_
          rw [if_neg (by decide), k2.2.2.2.1, if_pos (congrArg nI c0)]
          refine wb_X9_readInto_65 ?_
          rfl
        · have c0 : v_cl tb tn (v_f tb tn x.2.1) ≠ 0 := fun z => by
            have := v_cl_0 z
            have := k2.1
            omega
          rw [if_neg q]
          refine ⟨h2, S2, f12.mono rfl (by omega), fun z => absurd z (by show (0 : Nat) ≠ 1; decide), fun _ => ⟨p2 _ ?_, ⟨n + 1, Nat.le_succ _, s2, fun y hy => ⟨up _ _ _ hy, up _ _ _ hy, up _ _ _ hy⟩⟩, k2.1⟩⟩
          refine wb_X9_readInto_46 ?_
          rw [if_neg (by decide), k2.2.2.2.1, if_neg (fun z => c0 ((nI_eq (by omega) (by omega)).mp z))]
          refine wb_X9_readInto_61 ?_
          rw [k2.2.1]
          refine wb_X9_readInto_65 ?_
          rfl
    · rw [if_neg x1]
      obtain ⟨h2, r2, f2, s2, k2⟩ := g.2 x1
      have f12 : fx 3 cfSt h h2 := (f1x.trans f2).mono rfl (by decide)
      refine ⟨h2, S, f12.mono rfl (by omega), fun z => absurd z (by show (0 : Nat) ≠ 1; decide), fun _ => ⟨pre _ ?_, ⟨n, Nat.le_refl _, s2, fun y hy => ⟨rfl, rfl, rfl⟩⟩, st_le x1⟩⟩
      have w46 : XX true 9 110 46 [.ref 136, ax_junk, .int (nI 0), ax_junk] [] (h2) ((some (.int (nI x.2.1)), ax_wr h2 136 1 (.int (nI 0)))) := by
        refine wb_X9_readInto_46 ?_
        rw [if_pos rfl]
        refine wb_X9_readInto_61 ?_
        rw [k2]
        refine wb_X9_readInto_65 ?_
        rfl
      refine wb_X9_readInto_23 ?_
      refine cl_X9_readInto_25 rfl (by decide) (r2) ?_
      refine wb_X9_readInto_28 ?_
      by_cases z : hI h2 136 2 = nI 3
      · rw [if_pos z]
        refine wb_X9_readInto_9 ?_
        rw [nI_s, if_pos (nI_le (by omega) (by omega)), if_pos rfl]
        exact wkj w46
      · rw [if_neg z]
        exact wkj w46
theorem co_text (s : tS 0 c n K P B S h) (t : cTp tn tb h) : ∃ h' S', XX true 10 109 0 [.ref 64, ax_junk, ax_junk] [] (h) (some (.int (a_text n (v_txt tb tn c (7 - n) 0 n K P B))), h') ∧ fx 21 cfTx h h' ∧ cTp 0 tb h' ∧ ((v_txt tb tn c (7 - n) 0 n K P B).1 = 1 → tS 0 c (v_txt tb tn c (7 - n) 0 n K P B).2.1 (v_txt tb tn c (7 - n) 0 n K P B).2.2.1 (v_txt tb tn c (7 - n) 0 n K P B).2.2.2.1 (v_txt tb tn c (7 - n) 0 n K P B).2.2.2.2 S' h') ∧ ((v_txt tb tn c (7 - n) 0 n K P B).1 ≠ 1 → tS 0 c n K P B S' h') := by
  have t120 := t.1
  have al := s.al
  have h6 := s.n6
  have f0 : fr cfTk h (ax_wr h 136 4 (.int (nI 0))) := fr.wr rfl
  have s0 : tS 0 c n K P B S (ax_wr h 136 4 (.int (nI 0))) := s.fr f0 rfl rfl
  obtain ⟨h1, S1, f1, g1, g2⟩ := sp_readLoop (c := c) (tb := tb) t120 (7 - n) 0 0 (Nat.zero_le _) n K P B S _ (by omega) (by omega) s0 (cTp_fr t f0 (fun _ => rfl) rfl) (wr_I _ _ _ _)
  generalize v_txt tb tn c (7 - n) 0 n K P B = x at g1 g2 ⊢
  have fw : fr [(136, some 1)] h1 (ax_wr h1 136 1 (.int (nI 0))) := fr.wr rfl
  have F1 : fx 21 cfTx h (ax_wr h1 136 1 (.int (nI 0))) := (((f0.mono (L' := cfTx) rfl).fx.trans (f1.mono (L' := cfTx) (k' := 21) rfl (by omega))).trans ((fw.mono (L' := cfTx) rfl).fx)).mono rfl (by decide)
  unfold a_text
  by_cases x1 : x.1 = 1
  · obtain ⟨y1, y2, y3⟩ := g1 x1
    have z2 : tS 0 c x.2.1 x.2.2.1 x.2.2.2.1 x.2.2.2.2 S1 (ax_wr h1 136 1 (.int (nI 0))) := y2.fr fw rfl rfl
    have n6 := z2.n6
    refine ⟨_, S1, ?_, F1, ⟨Nat.zero_le _, wr_I _ _ _ _, fun i hi => absurd hi (Nat.not_lt_zero _)⟩, fun _ => z2, fun z => absurd x1 z⟩
    rw [if_pos x1]
    refine wb_X11_text_0 ?_
    rw [s.nn]
    refine cl_X11_text_22 rfl (by decide) ((wb_X9_readInto_0 y1)) ?_
    refine wb_X11_text_25 ?_
    rw [if_pos rfl, z2.nn, nI_subI y3]
  · obtain ⟨y1, ⟨n', y2, y3, y4⟩, y5⟩ := g2 x1
    have z2 : tS 0 c n' x.2.2.1 x.2.2.2.1 x.2.2.2.2 S1 (ax_wr h1 136 1 (.int (nI 0))) := y3.fr fw rfl rfl
    have f3 : fr [(66, some 3)] (ax_wr h1 136 1 (.int (nI 0))) (ax_wr (ax_wr h1 136 1 (.int (nI 0))) 66 3 (.int (nI n))) := fr.wr rfl
    have z3 := tS_cut z2 y2 f3 (wr_I _ _ _ _)
    refine ⟨_, S1, ?_, (F1.trans ((f3.mono (L' := cfTx) rfl).fx)).mono rfl (by decide), ⟨Nat.zero_le _, ?_, fun i hi => absurd hi (Nat.not_lt_zero _)⟩, fun z => absurd z x1, fun _ => z3.congr (fun a ha => ⟨(y4 a ha).1, (y4 a ha).2.1, (y4 a ha).2.2, rfl⟩)⟩
    · rw [if_neg x1]
      refine wb_X11_text_0 ?_
      rw [s.nn]
      refine cl_X11_text_22 rfl (by decide) ((wb_X9_readInto_0 y1)) ?_
      refine wb_X11_text_25 ?_
      rw [if_neg (nI_ne1 (by omega))]
    · rw [wr_Ia (by decide), wr_I]
end S81
