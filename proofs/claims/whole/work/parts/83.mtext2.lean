/-! THE REFERENCE: statements, a text -/
abbrev frSt : List (Nat × Option Nat) := frNu ++ frA
section S83
variable {c n tn : Nat} {K P B : Nat → Nat} {tb : Nat → Int32} {h h' : AH}
theorem sp_statement (s : mS c n K P B h) (t : mTp tn tb h) {a : Nat} (ha : a ≤ tn) (e : hI h 153 26 = nI a) : ((v_stm tb tn c n K (v_f tb tn a)).1 = 1 → ∃ h', XX true 7 226 0 [.ref 153, ax_junk, ax_junk, ax_junk] [] (h) (some (.int (nI 1)), h') ∧ fr frSt h h' ∧ mS c (n + 1) (updN K n (v_stm tb tn c n K (v_f tb tn a)).2.2.1) (updN P n (v_stm tb tn c n K (v_f tb tn a)).2.2.2.1) (updN B n (v_stm tb tn c n K (v_f tb tn a)).2.2.2.2) h' ∧ (v_stm tb tn c n K (v_f tb tn a)).2.1 ≤ tn ∧ hI h' 153 26 = nI (v_stm tb tn c n K (v_f tb tn a)).2.1 ∧ n < 6) ∧ ((v_stm tb tn c n K (v_f tb tn a)).1 ≠ 1 → ∃ h', XX true 7 226 0 [.ref 153, ax_junk, ax_junk, ax_junk] [] (h) (some (.int (nI 0)), h') ∧ fr frSt h h' ∧ mS c n K P B h' ∧ hI h' 153 28 = nI (v_stm tb tn c n K (v_f tb tn a)).2.1) := by
  have t120 := t.1
  have h6 := s.n6
  obtain ⟨h1, r1, f1, k1⟩ := sp_next t ha e
  have t1 := mTp_fr t f1 (fun _ => rfl) rfl
  have s1 : mS c n K P B h1 := s.fr f1 rfl
  generalize v_f tb tn a = f at k1 ⊢
  have el := v_e_le (tb := tb) k1.1
  have lp : ∀ m i, i + m = 8 → ∀ R, XX true 7 226 31 [.ref 153, .int (nI (v_at (fun k => decide (isTk tb f (v_e tb tn f) k)) m i)), ax_junk, ax_junk] [] (h1) (R) → XX true 7 226 6 [.ref 153, .int (nI i), ax_junk, ax_junk] [] (h1) (R) := by
    intro m
    induction m with
    | zero =>
      intro i hi R u
      obtain rfl : i = 8 := hi
      refine wb_X12_statement_6 ?_
      rw [if_neg (by decide)]
      exact u
    | succ m ih =>
      intro i hi R u
      have ev : v_at (fun k => decide (isTk tb f (v_e tb tn f) k)) (m + 1) i = if decide (isTk tb f (v_e tb tn f) i) = true then i else v_at (fun k => decide (isTk tb f (v_e tb tn f) k)) m (i + 1) := rfl
      rw [ev] at u
      refine wb_X12_statement_6 ?_
      rw [if_pos (nI_le (by omega) (by omega)), ix_nI (by omega)]
      refine ⟨in_nI (by omega) (by decide), ?_⟩
      refine (cl_X12_statement_19 rfl (by decide) (sp_isToken t1 k1 (w := i) (by omega))).mpr ?_
      refine wb_X12_statement_22 ?_
      by_cases q : isTk tb f (v_e tb tn f) i
      · rw [b2i_t q, if_neg (by decide)]
        rw [if_pos (decide_eq_true q)] at u
        exact u
      · rw [b2i_f q, if_pos rfl, nI_s]
        rw [if_neg (fun z => q (of_decide_eq_true z))] at u
        exact ih (i + 1) (by omega) R u
  have w8 : v_wd tb f (v_e tb tn f) ≤ 8 := by
    have := v_at_le (fun k => decide (isTk tb f (v_e tb tn f) k)) 8 0
    exact this.2
  have pre0 : ∀ R, XX true 7 226 31 [.ref 153, .int (nI (v_wd tb f (v_e tb tn f))), ax_junk, ax_junk] [] (h1) (R) → XX true 7 226 0 [.ref 153, ax_junk, ax_junk, ax_junk] [] (h) (R) := by
    intro R u
    refine wb_X12_statement_0 ?_
    refine (cl_X12_statement_1 rfl (by decide) (r1)).mpr ?_
    refine wb_X12_statement_4 ?_
    exact lp 8 0 rfl R u
  unfold v_stm
  dsimp only
  generalize v_wd tb f (v_e tb tn f) = w at w8 pre0 ⊢
  have gM : ∀ (p : Prop) [Decidable p] R, XX true 7 226 63 [.ref 153, .int (nI w), ax_junk, ax_junk] [.int (b2i p)] (ax_wr h1 153 28 (.int (if p then hI h1 153 28 else hI h1 153 27))) (R) → XX true 7 226 60 [.ref 153, .int (nI w), ax_junk, ax_junk] [.int (b2i p), .ref 153] (h1) (R) := by
    intro p _ R u
    refine (cl_X12_statement_60 rfl (by decide) (sp_must h1)).mpr ?_
    exact u
  by_cases ok : w < 8 ∧ n < 6 ∧ (isCd w → v_out K n < c)
  · rw [if_pos ok]
    obtain ⟨w7, n6, cl⟩ := id ok
    have f2 : fr frNu h (ax_wr h1 153 28 (.int (if True then hI h1 153 28 else hI h1 153 27))) := (f1.mono rfl).wr' rfl
    generalize e2 : ax_wr h1 153 28 (.int (if True then hI h1 153 28 else hI h1 153 27)) = h2 at f2
    have g6 : hI h2 153 26 = nI (v_e tb tn f) := by rw [← e2, wr_Ij (by decide)]; exact k1.2.2
    have t2 : mTp tn tb h2 := mTp_fr t f2 (fun _ => rfl) rfl
    have s2 : mS c n K P B h2 := s.fr f2 rfl
    have pre : ∀ R, XX true 7 226 63 [.ref 153, .int (nI w), ax_junk, ax_junk] [.int (nI 1)] (h2) (R) → XX true 7 226 0 [.ref 153, ax_junk, ax_junk, ax_junk] [] (h) (R) := by
      intro R u
      refine pre0 _ ?_
      refine wb_X12_statement_31 ?_
      rw [if_pos (nI_le (by omega) (by omega)), s1.nn, if_pos (nI_lt n6 (by omega))]
      refine (cl_X12_statement_49 rfl (by decide) (sp_isCardLeft s1 w7)).mpr ?_
      refine wb_X12_statement_52 ?_
      rw [b2i_t cl, if_neg (by decide)]
      have g := gM True R
      rw [b2i_t trivial, e2] at g
      exact wk_X12_statement_60 (g u)
    have a99 : ((v_arg tb tn (¬ (w = 1 ∨ w = 6)) 0 2 (v_e tb tn f)).1 = 1 → ∃ hb, (∀ R, XX true 7 226 99 [.ref 153, .int (nI w), .int (nI (v_arg tb tn (¬ (w = 1 ∨ w = 6)) 0 2 (v_e tb tn f)).2.2), .int (nI 0)] [] (hb) (R) → XX true 7 226 63 [.ref 153, .int (nI w), ax_junk, ax_junk] [.int (nI 1)] (h2) (R)) ∧ fr frNu h2 hb ∧ hI hb 153 26 = nI (v_arg tb tn (¬ (w = 1 ∨ w = 6)) 0 2 (v_e tb tn f)).2.1 ∧ (v_arg tb tn (¬ (w = 1 ∨ w = 6)) 0 2 (v_e tb tn f)).2.2 < 3) ∧ ((v_arg tb tn (¬ (w = 1 ∨ w = 6)) 0 2 (v_e tb tn f)).1 ≠ 1 → ∃ hb, (XX true 7 226 63 [.ref 153, .int (nI w), ax_junk, ax_junk] [.int (nI 1)] (h2) ((some (.int (nI 0)), hb))) ∧ fr frNu h2 hb ∧ hI hb 153 28 = nI (v_arg tb tn (¬ (w = 1 ∨ w = 6)) 0 2 (v_e tb tn f)).2.1) := by
      unfold v_arg
      by_cases hp : ¬ (w = 1 ∨ w = 6)
      · rw [if_pos hp]
        obtain ⟨hb, rb, fb, kb, n1, n2⟩ := sp_number t2 el.2 g6 (lo := 0) (hi := 2) (by decide) (by decide)
        have p63 : ∀ R, XX true 7 226 89 [.ref 153, .int (nI w), ax_junk, .int (nI 0)] [.int (b2i (v_cl tb tn (v_f tb tn (v_e tb tn f)) = 2 ∧ 0 ≤ v_nm tb (v_f tb tn (v_e tb tn f)) (v_e tb tn (v_f tb tn (v_e tb tn f)) - v_f tb tn (v_e tb tn f)) ∧ v_nm tb (v_f tb tn (v_e tb tn f)) (v_e tb tn (v_f tb tn (v_e tb tn f)) - v_f tb tn (v_e tb tn f)) ≤ 2))] (hb) (R) → XX true 7 226 63 [.ref 153, .int (nI w), ax_junk, ax_junk] [.int (nI 1)] (h2) (R) := by
          intro R u
          refine wb_X12_statement_63 ?_
          rw [if_neg (by decide), if_neg (fun z => hp (Or.inl ((nI_eq (by omega) (by omega)).mp z))), if_neg (fun z => hp (Or.inr ((nI_eq (by omega) (by omega)).mp z)))]
          refine (cl_X12_statement_86 rfl (by decide) (rb)).mpr ?_
          exact wk_X12_statement_89 u
        by_cases q : v_cl tb tn (v_f tb tn (v_e tb tn f)) = 2 ∧ 0 ≤ v_nm tb (v_f tb tn (v_e tb tn f)) (v_e tb tn (v_f tb tn (v_e tb tn f)) - v_f tb tn (v_e tb tn f)) ∧ v_nm tb (v_f tb tn (v_e tb tn f)) (v_e tb tn (v_f tb tn (v_e tb tn f)) - v_f tb tn (v_e tb tn f)) ≤ 2
        · rw [if_pos q]
          refine ⟨fun _ => ⟨hb, fun R u => p63 _ ?_, fb, kb.2.2, by show v_nm tb _ _ < 3; omega⟩, fun z => absurd rfl z⟩
          refine wb_X12_statement_89 ?_
          rw [b2i_t q, if_neg (by decide), n1 q]
          exact u
        · rw [if_neg q]
          refine ⟨fun z => absurd z (by show (0 : Nat) ≠ 1; decide), fun _ => ⟨hb, p63 _ ?_, fb, n2 q⟩⟩
          refine wb_X12_statement_89 ?_
          rw [b2i_f q, if_pos rfl]
      · rw [if_neg hp]
        refine ⟨fun _ => ⟨h2, fun R u => ?_, fr.rfl', g6, by show 0 < 3; decide⟩, fun z => absurd rfl z⟩
        refine wb_X12_statement_63 ?_
        rw [if_neg (by decide)]
        by_cases w1 : w = 1
        · rw [if_pos (congrArg nI w1)]
          exact u
        · rw [if_neg (fun z => w1 ((nI_eq (by omega) (by omega)).mp z)), if_pos (congrArg nI (show w = 6 by omega))]
          exact u
    have al1 := arg_le (tb := tb) (need := ¬ (w = 1 ∨ w = 6)) (lo := 0) (hi := 2) el.2
    generalize v_arg tb tn (¬ (w = 1 ∨ w = 6)) 0 2 (v_e tb tn f) = x at a99 al1 ⊢
    by_cases x1 : x.1 = 1
    · rw [if_pos x1]
      obtain ⟨hb, u99, fb, gb, p3⟩ := a99.1 x1
      have Fb : fr frNu h hb := f2.trans fb
      have t3 : mTp tn tb hb := mTp_fr t Fb (fun _ => rfl) rfl
      have s3 : mS c n K P B hb := s.fr Fb rfl
      have a122 : ((v_arg tb tn (hasN w) 2 3 x.2.1).1 = 1 → ∃ hc, (∀ R, XX true 7 226 122 [.ref 153, .int (nI w), .int (nI x.2.2), .int (nI (v_arg tb tn (hasN w) 2 3 x.2.1).2.2)] [] (hc) (R) → XX true 7 226 99 [.ref 153, .int (nI w), .int (nI x.2.2), .int (nI 0)] [] (hb) (R)) ∧ fr frNu hb hc ∧ hI hc 153 26 = nI (v_arg tb tn (hasN w) 2 3 x.2.1).2.1 ∧ (hasN w → (v_arg tb tn (hasN w) 2 3 x.2.1).2.2 = 2 ∨ (v_arg tb tn (hasN w) 2 3 x.2.1).2.2 = 3) ∧ (¬ hasN w → (v_arg tb tn (hasN w) 2 3 x.2.1).2.2 = 0)) ∧ ((v_arg tb tn (hasN w) 2 3 x.2.1).1 ≠ 1 → ∃ hc, (XX true 7 226 99 [.ref 153, .int (nI w), .int (nI x.2.2), .int (nI 0)] [] (hb) ((some (.int (nI 0)), hc))) ∧ fr frNu hb hc ∧ hI hc 153 28 = nI (v_arg tb tn (hasN w) 2 3 x.2.1).2.1) := by
        unfold v_arg
        by_cases hp : hasN w
        · rw [if_pos hp]
          obtain ⟨hc, rc, fc, kc, n1, n2⟩ := sp_number t3 al1.2 gb (lo := 2) (hi := 3) (by decide) (by decide)
          have p99 : ∀ R, XX true 7 226 112 [.ref 153, .int (nI w), .int (nI x.2.2), ax_junk] [.int (b2i (v_cl tb tn (v_f tb tn x.2.1) = 2 ∧ 2 ≤ v_nm tb (v_f tb tn x.2.1) (v_e tb tn (v_f tb tn x.2.1) - v_f tb tn x.2.1) ∧ v_nm tb (v_f tb tn x.2.1) (v_e tb tn (v_f tb tn x.2.1) - v_f tb tn x.2.1) ≤ 3))] (hc) (R) → XX true 7 226 99 [.ref 153, .int (nI w), .int (nI x.2.2), .int (nI 0)] [] (hb) (R) := by
            intro R u
            refine wb_X12_statement_99 ?_
            refine (cl_X12_statement_100 rfl (by decide) (sp_hasNumber w7 hb)).mpr ?_
            refine wb_X12_statement_103 ?_
            rw [b2i_t hp, if_neg (by decide)]
            refine (cl_X12_statement_109 rfl (by decide) (rc)).mpr ?_
            exact wk_X12_statement_112 u
          by_cases q : v_cl tb tn (v_f tb tn x.2.1) = 2 ∧ 2 ≤ v_nm tb (v_f tb tn x.2.1) (v_e tb tn (v_f tb tn x.2.1) - v_f tb tn x.2.1) ∧ v_nm tb (v_f tb tn x.2.1) (v_e tb tn (v_f tb tn x.2.1) - v_f tb tn x.2.1) ≤ 3
          · rw [if_pos q]
            refine ⟨fun _ => ⟨hc, fun R u => p99 _ ?_, fc, kc.2.2, fun _ => by show v_nm tb _ _ = 2 ∨ v_nm tb _ _ = 3; omega, fun z => absurd hp z⟩, fun z => absurd rfl z⟩
            refine wb_X12_statement_112 ?_
            rw [b2i_t q, if_neg (by decide), n1 q]
            exact u
          · rw [if_neg q]
            refine ⟨fun z => absurd z (by show (0 : Nat) ≠ 1; decide), fun _ => ⟨hc, p99 _ ?_, fc, n2 q⟩⟩
            refine wb_X12_statement_112 ?_
            rw [b2i_f q, if_pos rfl]
        · rw [if_neg hp]
          refine ⟨fun _ => ⟨hb, fun R u => ?_, fr.rfl', gb, fun z => absurd z hp, fun _ => rfl⟩, fun z => absurd rfl z⟩
          refine wb_X12_statement_99 ?_
          refine (cl_X12_statement_100 rfl (by decide) (sp_hasNumber w7 hb)).mpr ?_
          refine wb_X12_statement_103 ?_
          rw [b2i_f hp, if_pos rfl]
          exact u
      have al2 := arg_le (tb := tb) (need := hasN w) (lo := 2) (hi := 3) al1.2
      generalize v_arg tb tn (hasN w) 2 3 x.2.1 = y at a122 al2 ⊢
      by_cases y1 : y.1 = 1
      · rw [if_pos y1]
        obtain ⟨hc, u122, fc, gc, b1, b2⟩ := a122.1 y1
        refine ⟨fun _ => ?_, fun z => absurd rfl z⟩
        dsimp only
        have Fc : fr frNu h hc := Fb.trans fc
        have s4 : mS c n K P B hc := s.fr Fc rfl
        obtain ⟨h', r, f', m⟩ := sp_adds s4 n6 ⟨w7, p3, b1, b2⟩ cl
        refine ⟨h', pre _ (u99 _ (u122 _ ?_)), (Fc.mono rfl).trans (f'.mono rfl), m, al2.2, (f'.I rfl).trans gc, n6⟩
        refine wb_X12_statement_122 ?_
        refine (cl_X12_statement_126 rfl (by decide) (r)).mpr ?_
        refine wb_X12_statement_129 ?_
        rfl
      · rw [if_neg y1]
        obtain ⟨hc, r, fc, z⟩ := a122.2 y1
        exact ⟨fun z => absurd z (by show (0 : Nat) ≠ 1; decide), fun _ => ⟨hc, pre _ (u99 _ r), (Fb.trans fc).mono rfl, s.fr (Fb.trans fc) rfl, z⟩⟩
    · rw [if_neg x1]
      obtain ⟨hb, r, fb, z⟩ := a99.2 x1
      exact ⟨fun z => absurd z (by show (0 : Nat) ≠ 1; decide), fun _ => ⟨hb, pre _ r, (f2.trans fb).mono rfl, s.fr (f2.trans fb) rfl, z⟩⟩
  · rw [if_neg ok]
    have f2 : fr frNu h (ax_wr h1 153 28 (.int (if False then hI h1 153 28 else hI h1 153 27))) := (f1.mono rfl).wr' rfl
    have g8 : hI (ax_wr h1 153 28 (.int (if False then hI h1 153 28 else hI h1 153 27))) 153 28 = nI f := by rw [wr_I, if_neg (fun z => z), k1.2.1]
    have p59 : XX true 7 226 59 [.ref 153, .int (nI w), ax_junk, ax_junk] [.ref 153] (h1) ((some (.int (nI 0)), ax_wr h1 153 28 (.int (if False then hI h1 153 28 else hI h1 153 27)))) := by
      refine wb_X12_statement_59 ?_
      have g := gM False (some (.int (nI 0)), ax_wr h1 153 28 (.int (if False then hI h1 153 28 else hI h1 153 27)))
      rw [b2i_f (fun z => z)] at g
      refine wk_X12_statement_60 (g ?_)
      refine wb_X12_statement_63 ?_
      rw [if_pos rfl]
    refine ⟨fun z => absurd z (by show (0 : Nat) ≠ 1; decide), fun _ => ⟨_, pre0 _ ?_, f2.mono rfl, s.fr f2 rfl, g8⟩⟩
    refine wb_X12_statement_31 ?_
    by_cases w7 : w < 8
    · rw [if_pos (nI_le (by omega) (by omega)), s1.nn]
      by_cases n6 : n < 6
      · rw [if_pos (nI_lt n6 (by omega))]
        refine (cl_X12_statement_49 rfl (by decide) (sp_isCardLeft s1 w7)).mpr ?_
        refine wb_X12_statement_52 ?_
        rw [b2i_f (fun z => ok ⟨w7, n6, z⟩), if_pos rfl]
        exact wk_X12_statement_59 p59
      · rw [if_neg (nI_nlt (by omega) (by omega))]
        exact wk_X12_statement_59 p59
    · rw [if_neg (fun z => w7 (by have := (nI_leI (by omega) (by omega)).mp z; omega))]
      exact wk_X12_statement_59 p59
theorem stm_le {f : Nat} (hf : f ≤ tn) : (v_stm tb tn c n K f).2.1 ≤ tn := by
  have l2 := v_e_le (tb := tb) hf
  unfold v_stm
  dsimp only
  split
  · split
    · split
      · exact (arg_le (arg_le l2.2).2).2
      · exact (arg_le (arg_le l2.2).2).2
    · exact (arg_le l2.2).2
  · exact hf
abbrev frTx : List (Nat × Option Nat) := (153, some 25) :: frSt
theorem semi {f : Nat} (hf : f ≤ tn) : isTk tb f (v_e tb tn f) 8 ↔ v_cl tb tn f = 3 := by
  have el := v_e_le (tb := tb) hf
  have w1 : wl 8 = 1 := rfl
  constructor
  · intro z
    have b := z.2 0 (by decide)
    have e1 := z.1
    rw [w1] at e1
    rw [Nat.add_zero] at b
    have b' : tb f = nI 59 := b
    unfold v_cl
    rw [if_pos (by omega), b', if_neg (by decide), if_neg (by decide), if_pos rfl]
  · intro z
    have lt := v_cl_lt (tb := tb) (tn := tn) (i := f) (by omega)
    refine ⟨?_, fun i hi => ?_⟩
    · unfold v_e
      rw [z, if_neg (by decide), if_neg (by decide)]
      rfl
    · rw [w1] at hi
      obtain rfl : i = 0 := by omega
      rw [Nat.add_zero]
      unfold v_cl at z
      rw [if_pos lt] at z
      split at z
      · exact absurd z (by decide)
      · split at z
        · exact absurd z (by decide)
        · split at z
          · assumption
          · exact absurd z (by decide)
theorem sp_textLoop (t120 : tn ≤ 120) {w0 : Nat} (hw0 : w0 ≤ 6) : ∀ m a i, a ≤ tn → ∀ n K P B h, n + m = 7 → i + w0 = n → mS c n K P B h → mTp tn tb h → hI h 153 26 = nI a → ∃ h', fr frSt h h' ∧ ((v_txt tb tn c m a n K P B).1 = 1 → (XX true 8 225 17 [.ref 153, .int (nI w0), .int (nI i), .int (nI 1), .int (nI 1)] [] (h) ((some (.int (nI ((v_txt tb tn c m a n K P B).2.1 - w0))), ax_wr h' 153 25 (.int (nI 0))))) ∧ mS c (v_txt tb tn c m a n K P B).2.1 (v_txt tb tn c m a n K P B).2.2.1 (v_txt tb tn c m a n K P B).2.2.2.1 (v_txt tb tn c m a n K P B).2.2.2.2 h') ∧ ((v_txt tb tn c m a n K P B).1 ≠ 1 → (XX true 8 225 17 [.ref 153, .int (nI w0), .int (nI i), .int (nI 1), .int (nI 1)] [] (h) ((some (.int (-nI 100 - nI (v_txt tb tn c m a n K P B).2.1)), ax_wr (ax_wr h' 153 25 (.int (nI 0))) 153 2 (.int (nI w0))))) ∧ ∃ n', n ≤ n' ∧ mS c n' (v_txt tb tn c m a n K P B).2.2.1 (v_txt tb tn c m a n K P B).2.2.2.1 (v_txt tb tn c m a n K P B).2.2.2.2 h' ∧ ∀ x, x < n → (v_txt tb tn c m a n K P B).2.2.1 x = K x ∧ (v_txt tb tn c m a n K P B).2.2.2.1 x = P x ∧ (v_txt tb tn c m a n K P B).2.2.2.2 x = B x) := by
  intro m
  induction m with
  | zero =>
    intro a i ha n K P B h hn hi s t e
    exact absurd s.n6 (by omega)
  | succ m ih =>
    intro a i ha n K P B h hn hi s t e
    have h6 := s.n6
    have g := sp_statement s t ha e
    have st_le : (v_stm tb tn c n K (v_f tb tn a)).2.1 ≤ tn := stm_le (v_f_le (tb := tb) ha).2
    have e : v_txt tb tn c (m + 1) a n K P B = if (v_stm tb tn c n K (v_f tb tn a)).1 = 1 then (if v_cl tb tn (v_f tb tn (v_stm tb tn c n K (v_f tb tn a)).2.1) = 3 then v_txt tb tn c m (v_e tb tn (v_f tb tn (v_stm tb tn c n K (v_f tb tn a)).2.1)) (n + 1) (updN K n (v_stm tb tn c n K (v_f tb tn a)).2.2.1) (updN P n (v_stm tb tn c n K (v_f tb tn a)).2.2.2.1) (updN B n (v_stm tb tn c n K (v_f tb tn a)).2.2.2.2) else if v_f tb tn (v_stm tb tn c n K (v_f tb tn a)).2.1 = tn then (1, n + 1, updN K n (v_stm tb tn c n K (v_f tb tn a)).2.2.1, updN P n (v_stm tb tn c n K (v_f tb tn a)).2.2.2.1, updN B n (v_stm tb tn c n K (v_f tb tn a)).2.2.2.2) else (0, v_f tb tn (v_stm tb tn c n K (v_f tb tn a)).2.1, updN K n (v_stm tb tn c n K (v_f tb tn a)).2.2.1, updN P n (v_stm tb tn c n K (v_f tb tn a)).2.2.2.1, updN B n (v_stm tb tn c n K (v_f tb tn a)).2.2.2.2)) else (0, (v_stm tb tn c n K (v_f tb tn a)).2.1, K, P, B) := rfl
    rw [e]
    clear e
    generalize v_stm tb tn c n K (v_f tb tn a) = x at g st_le ⊢
    by_cases x1 : x.1 = 1
    · rw [if_pos x1]
      obtain ⟨h1, r1, f1, s1, pl, e1, n6⟩ := g.1 x1
      have t1 : mTp tn tb h1 := mTp_fr t f1 (fun _ => rfl) rfl
      obtain ⟨h2, r2, f2, k2⟩ := sp_next t1 pl e1
      have t2 : mTp tn tb h2 := mTp_fr t1 f2 (fun _ => rfl) rfl
      have up : ∀ (F : Nat → Nat) v y, y < n → updN F n v y = F y := fun F v y hy => updN_o (by omega)
      have pre : ∀ R, XX true 8 225 49 [.ref 153, .int (nI w0), .int (nI (i + 1)), ax_junk, ax_junk] [.int (b2i (v_cl tb tn (v_f tb tn x.2.1) = 3))] (h2) (R) → XX true 8 225 17 [.ref 153, .int (nI w0), .int (nI i), .int (nI 1), .int (nI 1)] [] (h) (R) := by
        intro R u
        refine wb_X12_text_17 ?_
        rw [if_neg (by decide), if_neg (by decide)]
        refine (cl_X12_text_27 rfl (by decide) (r1)).mpr ?_
        refine wb_X12_text_30 ?_
        rw [if_neg (by decide), nI_s]
        refine (cl_X12_text_39 rfl (by decide) (r2)).mpr ?_
        refine wb_X12_text_42 ?_
        refine (cl_X12_text_46 rfl (by decide) (sp_isToken t2 k2 (w := 8) (by decide))).mpr ?_
        rw [b2i_cong (semi k2.1)]
        exact u
      have p68 : ∀ R, ∀ y, XX true 8 225 76 [.ref 153, .int (nI w0), .int (nI (i + 1)), ax_junk, .int (y)] [.int (nI 1)] (ax_wr h2 153 28 (.int (hI h2 153 28))) (R) → XX true 8 225 68 [.ref 153, .int (nI w0), .int (nI (i + 1)), ax_junk, .int (y)] [.ref 153] (h2) (R) := by
        intro R y u
        have g := sp_must (p := True) h2
        rw [b2i_t trivial, if_pos trivial] at g
        refine wb_X12_text_68 ?_
        refine (cl_X12_text_73 rfl (by decide) g).mpr ?_
        exact wk_X12_text_76 u
      generalize e3 : ax_wr h2 153 28 (.int (hI h2 153 28)) = h3 at p68
      have f3 : fr frSt h2 h3 := by rw [← e3]; exact fr.wr rfl
      have F3 : fr frSt h h3 := (f1.trans (f2.mono rfl)).trans f3
      have s3 := s1.fr ((f2.mono rfl).trans ((by rw [← e3]; exact fr.wr rfl) : fr frNu h2 h3)) rfl
      have t3 : mTp tn tb h3 := mTp_fr t F3 (fun _ => rfl) rfl
      by_cases c3 : v_cl tb tn (v_f tb tn x.2.1) = 3
      · rw [if_pos c3]
        have g6 : hI h3 153 26 = nI (v_e tb tn (v_f tb tn x.2.1)) := by rw [← e3, wr_Ij (by decide)]; exact k2.2.2
        obtain ⟨h', f', g1, g2⟩ := ih (v_e tb tn (v_f tb tn x.2.1)) (i + 1) (v_e_le (tb := tb) k2.1).2 (n + 1) _ _ _ h3 (by omega) (by omega) s3 t3 g6
        have go : ∀ R, XX true 8 225 17 [.ref 153, .int (nI w0), .int (nI (i + 1)), .int (nI 1), .int (nI 1)] [] (h3) (R) → XX true 8 225 17 [.ref 153, .int (nI w0), .int (nI i), .int (nI 1), .int (nI 1)] [] (h) (R) := by
          intro R u
          refine pre _ ?_
          refine wb_X12_text_49 ?_
          rw [b2i_t c3, if_neg (by decide)]
          refine wk_X12_text_68 (p68 _ _ ?_)
          refine wb_X12_text_76 ?_
          exact u
        refine ⟨h', F3.trans f', fun z => ?_, fun z => ?_⟩
        · obtain ⟨y1, y2⟩ := g1 z
          exact ⟨go _ y1, y2⟩
        · obtain ⟨y1, n', y2, y3, y4⟩ := g2 z
          refine ⟨go _ y1, n', by omega, y3, fun q hq => ?_⟩
          have := y4 q (by omega)
          rw [up _ _ _ hq, up _ _ _ hq, up _ _ _ hq] at this
          exact this
      · rw [if_neg c3]
        by_cases q : v_f tb tn x.2.1 = tn
        · rw [if_pos q]
          refine ⟨h3, F3, fun _ => ⟨pre _ ?_, s3⟩, fun z => absurd rfl z⟩
          refine wb_X12_text_49 ?_
          rw [b2i_f c3, if_pos rfl, k2.2.1, t2.2.1, if_pos (congrArg nI q)]
          refine wk_X12_text_68 (p68 _ _ ?_)
          refine wb_X12_text_76 ?_
          refine wb_X12_text_17 ?_
          rw [if_neg (by decide), if_pos rfl]
          refine wb_X12_text_80 ?_
          rw [if_neg (by decide), show n + 1 - w0 = i + 1 by omega]
        · rw [if_neg q]
          have g := sp_must (p := False) h2
          rw [b2i_f (fun z => z), if_neg (fun z => z), k2.2.1] at g
          have f4 : fr frNu h2 (ax_wr h2 153 28 (.int (nI (v_f tb tn x.2.1)))) := fr.wr rfl
          refine ⟨ax_wr h2 153 28 (.int (nI (v_f tb tn x.2.1))), (f1.trans (f2.mono rfl)).trans (f4.mono rfl), fun z => absurd z (by show (0 : Nat) ≠ 1; decide), fun _ => ⟨pre _ ?_, n + 1, Nat.le_succ _, s1.fr ((f2.mono rfl).trans f4) rfl, fun y hy => ⟨up _ _ _ hy, up _ _ _ hy, up _ _ _ hy⟩⟩⟩
          refine wb_X12_text_49 ?_
          rw [b2i_f c3, if_pos rfl, k2.2.1, t2.2.1, if_neg (fun z => q ((nI_eq (by have := k2.1; omega) (by omega)).mp z))]
          refine wk_X12_text_73 ((cl_X12_text_73 rfl (by decide) g).mpr ?_)
          refine wk_X12_text_76 ?_
          refine wb_X12_text_76 ?_
          refine wb_X12_text_17 ?_
          rw [if_pos rfl]
          refine wb_X12_text_80 ?_
          rw [if_pos rfl, wr_Ij (by decide), wr_Ij (by decide), wr_I]
    · rw [if_neg x1]
      obtain ⟨h1, r1, f1, s1, e1⟩ := g.2 x1
      refine ⟨h1, f1, fun z => absurd z (by show (0 : Nat) ≠ 1; decide), fun _ => ⟨?_, n, Nat.le_refl _, s1, fun y hy => ⟨rfl, rfl, rfl⟩⟩⟩
      refine wb_X12_text_17 ?_
      rw [if_neg (by decide), if_neg (by decide)]
      refine (cl_X12_text_27 rfl (by decide) (r1)).mpr ?_
      refine wb_X12_text_30 ?_
      rw [if_pos rfl, nI_s]
      refine wb_X12_text_17 ?_
      rw [if_pos rfl]
      refine wb_X12_text_80 ?_
      rw [if_pos rfl, wr_Ij (by decide), wr_Ij (by decide), e1]
theorem mo_text (s : mS c n K P B h) (t : mTp tn tb h) : ∃ h', XX true 8 225 0 [.ref 153, ax_junk, ax_junk, ax_junk, ax_junk] [] (h) (some (.int (a_text n (v_txt tb tn c (7 - n) 0 n K P B))), h') ∧ fr frTx h h' ∧ mTp 0 tb h' ∧ ((v_txt tb tn c (7 - n) 0 n K P B).1 = 1 → mS c (v_txt tb tn c (7 - n) 0 n K P B).2.1 (v_txt tb tn c (7 - n) 0 n K P B).2.2.1 (v_txt tb tn c (7 - n) 0 n K P B).2.2.2.1 (v_txt tb tn c (7 - n) 0 n K P B).2.2.2.2 h') ∧ ((v_txt tb tn c (7 - n) 0 n K P B).1 ≠ 1 → mS c n K P B h') := by
  have t120 := t.1
  have h6 := s.n6
  have f0 : fr frTk h (ax_wr h 153 26 (.int (nI 0))) := fr.wr rfl
  have s0 : mS c n K P B (ax_wr h 153 26 (.int (nI 0))) := s.fr f0 rfl
  obtain ⟨h1, f1, g1, g2⟩ := sp_textLoop (c := c) (tb := tb) t120 (w0 := n) h6 (7 - n) 0 0 (Nat.zero_le _) n K P B _ (by omega) (by omega) s0 (mTp_fr t f0 (fun _ => rfl) rfl) (wr_I _ _ _ _)
  generalize v_txt tb tn c (7 - n) 0 n K P B = x at g1 g2 ⊢
  have fw : fr [(153, some 25)] h1 (ax_wr h1 153 25 (.int (nI 0))) := fr.wr rfl
  have F1 : fr frTx h (ax_wr h1 153 25 (.int (nI 0))) := ((f0.mono rfl).trans (f1.mono rfl)).trans (fw.mono rfl)
  unfold a_text
  by_cases x1 : x.1 = 1
  · obtain ⟨y1, y2⟩ := g1 x1
    refine ⟨_, ?_, F1, ⟨Nat.zero_le _, wr_I _ _ _ _, fun i hi => absurd hi (Nat.not_lt_zero _)⟩, fun _ => y2.fr fw rfl, fun z => absurd x1 z⟩
    rw [if_pos x1]
    refine wb_X12_text_0 ?_
    rw [s.nn]
    exact y1
  · obtain ⟨y1, n', y2, y3, y4⟩ := g2 x1
    have z2 := y3.fr fw rfl
    have f3 : fr [(153, some 2)] (ax_wr h1 153 25 (.int (nI 0))) (ax_wr (ax_wr h1 153 25 (.int (nI 0))) 153 2 (.int (nI n))) := fr.wr rfl
    refine ⟨_, ?_, F1.trans (f3.mono rfl), ⟨Nat.zero_le _, ?_, fun i hi => absurd hi (Nat.not_lt_zero _)⟩, fun z => absurd z x1, fun _ => ⟨s.1, (f3.I rfl).trans z2.cc, wr_I _ _ _ _, fun i hi => ?_⟩⟩
    · rw [if_neg x1]
      refine wb_X12_text_0 ?_
      rw [s.nn]
      exact y1
    · rw [wr_Ij (by decide), wr_I]
    · have q := y4 i hi
      rw [← q.1, ← q.2.1, ← q.2.2]
      exact ⟨(f3.I rfl).trans (z2.KK (by omega)), (f3.I rfl).trans (z2.PP (by omega)), (f3.I rfl).trans (z2.BB (by omega))⟩
end S83
