/-! THE CLASS: words, statements -/
section S80
variable {c n tn : Nat} {K P B S : Nat → Nat} {tb : Nat → Int32} {h h' : AH}
theorem sp_isWord (t : cTp tn tb h) {f : Nat} (k : cTk tb tn f h) {w : Nat} (hw : w < 9) : XX true 6 115 0 [.ref 136, rf (10 + w), ax_junk] [] (h) (some (.int (b2i (isTk tb f (v_e tb tn f) w))), h) := by
  have t120 := t.1
  obtain ⟨k1, k3, k4, k2, k5⟩ := k
  have el := v_e_le (tb := tb) k1
  have l6 := wl_6 w hw
  have d := (wD w hw h).1
  refine wb_X9_isWord_0 ?_
  refine cl_X9_isWord_1 rfl (by decide) (sp_len hw h) ?_
  refine ⟨d, ?_⟩
  refine wb_X9_isWord_4 ?_
  rw [k4, k3, nI_subI el.1]
  by_cases q : v_e tb tn f = f + wl w
  · rw [if_pos (congrArg nI (by omega))]
    have lp : ∀ m i, i + m = wl w → (∀ j, j < i → tb (f + j) = nI (wc w j)) → XX true 6 115 20 [.ref 136, rf (10 + w), .int (nI i)] [] (h) ((some (.int (b2i (isTk tb f (v_e tb tn f) w))), h)) := by
      intro m
      induction m with
      | zero =>
        intro i hi g
        obtain rfl : i = wl w := hi
        refine wb_X9_isWord_20 ?_
        refine cl_X9_isWord_22 rfl (by decide) (sp_len hw h) ?_
        refine ⟨d, ?_⟩
        refine wb_X9_isWord_25 ?_
        rw [if_neg (nI_nlt (Nat.le_refl _) (by omega)), b2i_t ⟨q, g⟩]
      | succ m ih =>
        intro i hi g
        refine wb_X9_isWord_20 ?_
        refine cl_X9_isWord_22 rfl (by decide) (sp_len hw h) ?_
        refine ⟨d, ?_⟩
        refine wb_X9_isWord_25 ?_
        rw [if_pos (nI_lt (by omega) (by omega))]
        refine cl_X9_isWord_30 rfl (by decide) (sp_char hw (i := i) (by omega) h) ?_
        refine ⟨d, ?_⟩
        refine wb_X9_isWord_33 ?_
        rw [k3, nI_add, ix_nI (by omega), t.2.2 _ (by omega)]
        refine ⟨in_nI (by omega) (by decide), ?_⟩
        by_cases z : tb (f + i) = nI (wc w i)
        · rw [if_pos z.symm, nI_s]
          exact ih (i + 1) (by omega) (fun j hj => by
            by_cases e : j = i
            · rw [e]; exact z
            · exact g j (by omega))
        · rw [if_neg (fun y => z y.symm), b2i_f (fun y => z (y.2 i (by omega)))]
    exact lp (wl w) 0 (by omega) (fun j hj => absurd hj (Nat.not_lt_zero _))
  · rw [if_neg (fun z => q (by have := (nI_eq (by omega) (by omega)).mp z; omega)), b2i_f (fun z => q z.1)]
theorem sp_kindTold (t : cTp tn tb h) {f : Nat} (k : cTk tb tn f h) : XX true 7 114 0 [.ref 136, ax_junk] [] (h) (some (rf (if v_wd tb f (v_e tb tn f) < 8 then v_wd tb f (v_e tb tn f) else 9)), h) := by
  have c4 := v_cl_4 tb tn f
  have lp : ∀ m i, i + m = 8 → XX true 7 114 12 [.ref 136, .int (nI i)] [] (h) ((some (rf (if v_at (fun k => decide (isTk tb f (v_e tb tn f) k)) m i < 8 then v_at (fun k => decide (isTk tb f (v_e tb tn f) k)) m i else 9)), h)) := by
    intro m
    induction m with
    | zero =>
      intro i hi
      obtain rfl : i = 8 := hi
      refine wb_X9_kindTold_12 ?_
      rw [if_neg (by decide)]
      rfl
    | succ m ih =>
      intro i hi
      have e : v_at (fun k => decide (isTk tb f (v_e tb tn f) k)) (m + 1) i = if decide (isTk tb f (v_e tb tn f) i) = true then i else v_at (fun k => decide (isTk tb f (v_e tb tn f) k)) m (i + 1) := rfl
      refine wb_X9_kindTold_12 ?_
      rw [if_pos (nI_lt (by omega) (by omega)), ix_nI (by omega)]
      refine ⟨in_nI (by omega) (by decide), kO i (by omega) h, _, k_word i (by omega) h, ?_⟩
      refine cl_X9_kindTold_29 rfl (by decide) (sp_isWord t k (w := i) (by omega)) ?_
      refine wb_X9_kindTold_32 ?_
      by_cases q : isTk tb f (v_e tb tn f) i
      · rw [b2i_t q, if_neg (by decide), e, if_pos (decide_eq_true q), if_pos (by omega), ix_nI (by omega)]
        exact ⟨in_nI (by omega) (by decide), rfl⟩
      · rw [b2i_f q, if_pos rfl, e, if_neg (fun z => q (of_decide_eq_true z)), nI_s]
        exact ih (i + 1) (by omega)
  refine wb_X9_kindTold_0 ?_
  rw [k.2.2.2.1]
  by_cases q : v_cl tb tn f = 1
  · rw [if_pos (congrArg nI q)]
    exact lp 8 0 rfl
  · rw [if_neg (fun z => q ((nI_eq (by omega) (by omega)).mp z)), v_wd_8 k.1 q, if_neg (by decide)]
theorem sp_isNumber {f : Nat} (k : cTk tb tn f h) {lo hi : Nat} (h1 : lo < 100) (h2 : hi < 100) : XX true 1 127 0 [.ref 136, .int (nI lo), .int (nI hi)] [] (h) (some (.int (b2i (v_cl tb tn f = 2 ∧ lo ≤ v_nm tb f (v_e tb tn f - f) ∧ v_nm tb f (v_e tb tn f - f) ≤ hi))), h) := by
  obtain ⟨k1, k3, k4, k2, k5⟩ := k
  have c4 := v_cl_4 tb tn f
  refine wb_X9_isNumber_0 ?_
  rw [k2]
  by_cases q : v_cl tb tn f = 2
  · have n99 : v_nm tb f (v_e tb tn f - f) ≤ 99 := v_nm_99 _ (v_e_dig q)
    rw [if_pos (congrArg nI q), k5 q]
    by_cases z : v_nm tb f (v_e tb tn f - f) < lo
    · rw [if_pos (nI_lt z (by omega)), b2i_f (by omega)]
    · rw [if_neg (nI_nlt (by omega) (by omega))]
      by_cases y : v_nm tb f (v_e tb tn f - f) ≤ hi
      · rw [if_pos (nI_le y (by omega)), b2i_t ⟨q, by omega, y⟩]
      · rw [if_neg (fun w => y ((nI_leI (by omega) (by omega)).mp w)), b2i_f (by omega)]
  · rw [if_neg (fun z => q ((nI_eq (by omega) (by omega)).mp z)), b2i_f (fun z => q z.1)]
abbrev cfSt : List (Nat × Option Nat) := cfTk ++ cfTt
/-- at a fault: where it is -/
def cFt (p : Nat) (h : AH) : Prop := hI h 136 3 = nI p
theorem arg_le {need : Prop} [Decidable need] {lo hi a : Nat} (ha : a ≤ tn) : a ≤ (v_arg tb tn need lo hi a).2.1 ∧ (v_arg tb tn need lo hi a).2.1 ≤ tn := by
  have := v_f_le (tb := tb) ha
  have e := v_e_le (tb := tb) this.2
  unfold v_arg
  split
  · split
    · exact ⟨by show a ≤ v_e tb tn (v_f tb tn a); omega, e.2⟩
    · exact this
  · exact ⟨Nat.le_refl _, ha⟩
theorem arg_01 {need : Prop} [Decidable need] {lo hi a : Nat} : (v_arg tb tn need lo hi a).1 = 1 ∨ (v_arg tb tn need lo hi a).1 = 0 := by
  unfold v_arg
  split
  · split
    · exact Or.inl rfl
    · exact Or.inr rfl
  · exact Or.inl rfl
theorem sp_readStatement (s : tS 0 c n K P B S h) (t : cTp tn tb h) {f : Nat} (k : cTk tb tn f h) : ((v_stm tb tn c n K f).1 = 1 → ∃ h' S', XX true 8 113 0 [.ref 136, .ref 66, ax_junk, ax_junk, ax_junk] [] (h) (some (.int (nI 1)), h') ∧ fx 3 cfSt h h' ∧ tS 0 c (n + 1) (updN K n (v_stm tb tn c n K f).2.2.1) (updN P n (v_stm tb tn c n K f).2.2.2.1) (updN B n (v_stm tb tn c n K f).2.2.2.2) S' h' ∧ (v_stm tb tn c n K f).2.1 ≤ tn ∧ cTk tb tn (v_f tb tn (v_stm tb tn c n K f).2.1) h' ∧ n < 6) ∧ ((v_stm tb tn c n K f).1 ≠ 1 → ∃ h', XX true 8 113 0 [.ref 136, .ref 66, ax_junk, ax_junk, ax_junk] [] (h) (some (.int (nI 0)), h') ∧ fx 3 cfSt h h' ∧ tS 0 c n K P B S h' ∧ cFt (v_stm tb tn c n K f).2.1 h') := by
  have t120 := t.1
  have al := s.al
  have h6 := s.n6
  have el := v_e_le (tb := tb) k.1
  have kt := sp_kindTold t k
  unfold v_stm
  generalize hk : v_wd tb f (v_e tb tn f) = w at kt ⊢
  dsimp only
  by_cases ok : w < 8 ∧ n < 6 ∧ (isCd w → v_out K n < c)
  · rw [if_pos ok]
    obtain ⟨w8, n6, cl⟩ := id ok
    rw [if_pos w8] at kt
    have pre : ∀ R, XX true 8 113 27 [.ref 136, .ref 66, rf (w), ax_junk, ax_junk] [.ref 136] (h) (R) → XX true 8 113 0 [.ref 136, .ref 66, ax_junk, ax_junk, ax_junk] [] (h) (R) := by
      intro R u
      refine wb_X9_readStatement_0 ?_
      refine cl_X9_readStatement_1 rfl (by decide) (kt) ?_
      refine wb_X9_readStatement_4 ?_
      rw [if_neg (by omega)]
      refine cl_X9_readStatement_10 rfl (by decide) (sp_t_hasRoom s) ?_
      refine wb_X9_readStatement_13 ?_
      rw [b2i_t n6, if_neg (by decide)]
      refine cl_X9_readStatement_18 rfl (by decide) (sp_t_hasCardFor s w8) ?_
      refine wb_X9_readStatement_21 ?_
      rw [b2i_t cl, if_neg (by decide)]
      exact u
    -- the token behind the word
    obtain ⟨ha, ra, fa, ka⟩ := sp_advance t el.2 k.2.2.1
    have ta : cTp tn tb ha := cTp_fr t fa (fun _ => rfl) rfl
    have sa : tS 0 c n K P B S ha := s.fr fa rfl rfl
    -- a number that may stand there
    have a62 : ((v_arg tb tn (¬ (w = 1 ∨ w = 6)) 0 2 (v_e tb tn f)).1 = 1 → ∃ hb, (∀ R, XX true 8 113 62 [.ref 136, .ref 66, rf (w), .int (nI (v_arg tb tn (¬ (w = 1 ∨ w = 6)) 0 2 (v_e tb tn f)).2.2), .int (nI 0)] [] (hb) (R) → XX true 8 113 30 [.ref 136, .ref 66, rf (w), ax_junk, ax_junk] [] (ha) (R)) ∧ fr cfTk ha hb ∧ cTk tb tn (v_f tb tn (v_arg tb tn (¬ (w = 1 ∨ w = 6)) 0 2 (v_e tb tn f)).2.1) hb ∧ (v_arg tb tn (¬ (w = 1 ∨ w = 6)) 0 2 (v_e tb tn f)).2.2 < 3) ∧ ((v_arg tb tn (¬ (w = 1 ∨ w = 6)) 0 2 (v_e tb tn f)).1 ≠ 1 → (XX true 8 113 30 [.ref 136, .ref 66, rf (w), ax_junk, ax_junk] [] (ha) ((some (.int (nI 0)), ha))) ∧ cFt (v_arg tb tn (¬ (w = 1 ∨ w = 6)) 0 2 (v_e tb tn f)).2.1 ha) := by
      unfold v_arg
      by_cases hp : ¬ (w = 1 ∨ w = 6)
      · rw [if_pos hp]
        have p30 : ∀ R, XX true 8 113 48 [.ref 136, .ref 66, rf (w), ax_junk, .int (nI 0)] [.int (b2i (v_cl tb tn (v_f tb tn (v_e tb tn f)) = 2 ∧ 0 ≤ v_nm tb (v_f tb tn (v_e tb tn f)) (v_e tb tn (v_f tb tn (v_e tb tn f)) - v_f tb tn (v_e tb tn f)) ∧ v_nm tb (v_f tb tn (v_e tb tn f)) (v_e tb tn (v_f tb tn (v_e tb tn f)) - v_f tb tn (v_e tb tn f)) ≤ 2))] (ha) (R) → XX true 8 113 30 [.ref 136, .ref 66, rf (w), ax_junk, ax_junk] [] (ha) (R) := by
          intro R u
          refine wb_X9_readStatement_30 ?_
          rw [k_hasP _ w8, b2i_t hp]
          refine ⟨kO _ w8 ha, ?_⟩
          rw [if_neg (by decide)]
          refine cl_X9_readStatement_45 rfl (by decide) (sp_isNumber ka (lo := 0) (hi := 2) (by decide) (by decide)) ?_
          exact wkj u
        by_cases q : v_cl tb tn (v_f tb tn (v_e tb tn f)) = 2 ∧ 0 ≤ v_nm tb (v_f tb tn (v_e tb tn f)) (v_e tb tn (v_f tb tn (v_e tb tn f)) - v_f tb tn (v_e tb tn f)) ∧ v_nm tb (v_f tb tn (v_e tb tn f)) (v_e tb tn (v_f tb tn (v_e tb tn f)) - v_f tb tn (v_e tb tn f)) ≤ 2
        · rw [if_pos q]
          refine ⟨fun _ => ?_, fun z => absurd rfl z⟩
          obtain ⟨hb, rb, fb, kb⟩ := sp_advance ta (v_e_le (tb := tb) ka.1).2 ka.2.2.1
          refine ⟨hb, fun R u => p30 _ ?_, fb, kb, by show v_nm tb _ _ < 3; omega⟩
          refine wb_X9_readStatement_48 ?_
          rw [b2i_t q, if_neg (by decide), ka.2.2.2.2 q.1]
          refine cl_X9_readStatement_59 rfl (by decide) (rb) ?_
          exact u
        · rw [if_neg q]
          refine ⟨fun z => absurd z (by show (0 : Nat) ≠ 1; decide), fun _ => ⟨p30 _ ?_, ka.2.1⟩⟩
          refine wb_X9_readStatement_48 ?_
          rw [b2i_f q, if_pos rfl]
      · rw [if_neg hp]
        refine ⟨fun _ => ⟨ha, fun R u => ?_, fr.rfl', ka, by show 0 < 3; decide⟩, fun z => absurd rfl z⟩
        refine wb_X9_readStatement_30 ?_
        rw [k_hasP _ w8, b2i_f hp, if_pos rfl]
        exact ⟨kO _ w8 ha, u⟩
    have al1 := arg_le (tb := tb) (need := ¬ (w = 1 ∨ w = 6)) (lo := 0) (hi := 2) el.2
    generalize v_arg tb tn (¬ (w = 1 ∨ w = 6)) 0 2 (v_e tb tn f) = x at a62 al1 ⊢
    by_cases x1 : x.1 = 1
    · rw [if_pos x1]
      obtain ⟨hb, u62, fb, kb, p3⟩ := a62.1 x1
      have tb' : cTp tn tb hb := cTp_fr ta fb (fun _ => rfl) rfl
      have sb : tS 0 c n K P B S hb := sa.fr fb rfl rfl
      have fab : fr cfTk h hb := fa.trans fb
      have a90 : ((v_arg tb tn (hasN w) 2 3 x.2.1).1 = 1 → ∃ hc, (∀ R, XX true 8 113 90 [ax_junk, .ref 66, rf (w), .int (nI x.2.2), .int (nI (v_arg tb tn (hasN w) 2 3 x.2.1).2.2)] [] (hc) (R) → XX true 8 113 62 [.ref 136, .ref 66, rf (w), .int (nI x.2.2), .int (nI 0)] [] (hb) (R)) ∧ fr cfTk hb hc ∧ cTk tb tn (v_f tb tn (v_arg tb tn (hasN w) 2 3 x.2.1).2.1) hc ∧ (hasN w → (v_arg tb tn (hasN w) 2 3 x.2.1).2.2 = 2 ∨ (v_arg tb tn (hasN w) 2 3 x.2.1).2.2 = 3) ∧ (¬ hasN w → (v_arg tb tn (hasN w) 2 3 x.2.1).2.2 = 0)) ∧ ((v_arg tb tn (hasN w) 2 3 x.2.1).1 ≠ 1 → (XX true 8 113 62 [.ref 136, .ref 66, rf (w), .int (nI x.2.2), .int (nI 0)] [] (hb) ((some (.int (nI 0)), hb))) ∧ cFt (v_arg tb tn (hasN w) 2 3 x.2.1).2.1 hb) := by
        unfold v_arg
        by_cases hp : hasN w
        · rw [if_pos hp]
          have p62 : ∀ R, XX true 8 113 75 [.ref 136, .ref 66, rf (w), .int (nI x.2.2), ax_junk] [.int (b2i (v_cl tb tn (v_f tb tn x.2.1) = 2 ∧ 2 ≤ v_nm tb (v_f tb tn x.2.1) (v_e tb tn (v_f tb tn x.2.1) - v_f tb tn x.2.1) ∧ v_nm tb (v_f tb tn x.2.1) (v_e tb tn (v_f tb tn x.2.1) - v_f tb tn x.2.1) ≤ 3))] (hb) (R) → XX true 8 113 62 [.ref 136, .ref 66, rf (w), .int (nI x.2.2), .int (nI 0)] [] (hb) (R) := by
            intro R u
            refine wb_X9_readStatement_62 ?_
            rw [k_hasN _ w8, b2i_t hp]
            refine ⟨kO _ w8 hb, ?_⟩
            rw [if_neg (by decide)]
            refine cl_X9_readStatement_72 rfl (by decide) (sp_isNumber kb (lo := 2) (hi := 3) (by decide) (by decide)) ?_
            exact wkj u
          by_cases q : v_cl tb tn (v_f tb tn x.2.1) = 2 ∧ 2 ≤ v_nm tb (v_f tb tn x.2.1) (v_e tb tn (v_f tb tn x.2.1) - v_f tb tn x.2.1) ∧ v_nm tb (v_f tb tn x.2.1) (v_e tb tn (v_f tb tn x.2.1) - v_f tb tn x.2.1) ≤ 3
          · rw [if_pos q]
            refine ⟨fun _ => ?_, fun z => absurd rfl z⟩
            obtain ⟨hc, rc, fc, kc⟩ := sp_advance tb' (v_e_le (tb := tb) kb.1).2 kb.2.2.1
            refine ⟨hc, fun R u => p62 _ ?_, fc, kc, fun _ => by show v_nm tb _ _ = 2 ∨ v_nm tb _ _ = 3; omega, fun z => absurd hp z⟩
            refine wb_X9_readStatement_75 ?_
            rw [b2i_t q, if_neg (by decide), kb.2.2.2.2 q.1]
            refine cl_X9_readStatement_87 rfl (by decide) (rc) ?_
            exact wkj u
          · rw [if_neg q]
            refine ⟨fun z => absurd z (by show (0 : Nat) ≠ 1; decide), fun _ => ⟨p62 _ ?_, kb.2.1⟩⟩
            refine wb_X9_readStatement_75 ?_
            rw [b2i_f q, if_pos rfl]
        · rw [if_neg hp]
          refine ⟨fun _ => ⟨hb, fun R u => ?_, fr.rfl', kb, fun z => absurd z hp, fun _ => rfl⟩, fun z => absurd rfl z⟩
          refine wb_X9_readStatement_62 ?_
          rw [k_hasN _ w8, b2i_f hp, if_pos rfl]
          exact ⟨kO _ w8 hb, wkj u⟩
      have al2 := arg_le (tb := tb) (need := hasN w) (lo := 2) (hi := 3) al1.2
      generalize v_arg tb tn (hasN w) 2 3 x.2.1 = y at a90 al2 ⊢
      by_cases y1 : y.1 = 1
      · rw [if_pos y1]
        obtain ⟨hc, u90, fc, kc, b1, b2⟩ := a90.1 y1
        refine ⟨fun _ => ?_, fun z => absurd rfl z⟩
        dsimp only
        have sc : tS 0 c n K P B S hc := sb.fr fc rfl rfl
        obtain ⟨hd, rd, fd, so⟩ := newS hc sc.al w x.2.2 y.2.2
        have sd := tS_fx sc fd (by decide) rfl rfl
        obtain ⟨h', r, f', m⟩ := sp_t_put sd n6 ⟨w8, p3, b1, b2⟩ cl so
        have F0 : fx 0 cfSt h hc := ((fab.trans fc).mono rfl).fx (L := cfSt)
        have F1 : fx 3 cfSt hc hd := fd.mono rfl (Nat.le_refl _)
        have F : fx 3 cfSt h hd := (F0.trans F1).mono rfl (by decide)
        refine ⟨h', _, pre _ ?_, F.trans ((f'.mono rfl).fx (L := cfSt)), m, al2.2, ?_, n6⟩
        · refine cl_X9_readStatement_27 rfl (by decide) (ra) ?_
          refine u62 _ (u90 _ ?_)
          refine wb_X9_readStatement_90 ?_
          refine ⟨sc.al, ?_⟩
          refine cl_X9_readStatement_99 rfl (by decide) (rd) ?_
          refine ⟨by have := sc.al; omega, ?_⟩
          refine cl_X9_readStatement_102 rfl (by decide) (r) ?_
          refine wb_X9_readStatement_105 ?_
          rfl
        · have i1 : ∀ j, inS cfTt 136 j = false := fun _ => rfl
          have e : ∀ j, hI h' 136 j = hI hc 136 j := fun j => (f'.I (i1 j)).trans (fd.I (by have := sc.al; omega) rfl)
          exact ⟨kc.1, (e 3).trans kc.2.1, (e 4).trans kc.2.2.1, (e 2).trans kc.2.2.2.1, fun z => (e 5).trans (kc.2.2.2.2 z)⟩
      · rw [if_neg y1]
        obtain ⟨r, z⟩ := a90.2 y1
        refine ⟨fun z => absurd z (by show (0 : Nat) ≠ 1; decide), fun _ => ⟨hb, pre _ ?_, ((fab.mono rfl).fx (L := cfSt)).mono rfl (by decide), sb, z⟩⟩
        refine cl_X9_readStatement_27 rfl (by decide) (ra) ?_
        exact u62 _ r
    · rw [if_neg x1]
      obtain ⟨r, z⟩ := a62.2 x1
      refine ⟨fun z => absurd z (by show (0 : Nat) ≠ 1; decide), fun _ => ⟨ha, pre _ ?_, ((fa.mono rfl).fx (L := cfSt)).mono rfl (by decide), sa, z⟩⟩
      refine cl_X9_readStatement_27 rfl (by decide) (ra) ?_
      exact r
  · rw [if_neg ok]
    refine ⟨fun z => absurd z (by show (0 : Nat) ≠ 1; decide), fun _ => ⟨h, ?_, fr.rfl'.fx.mono (L := cfSt) rfl (by decide), s, k.2.1⟩⟩
    refine wb_X9_readStatement_0 ?_
    refine cl_X9_readStatement_1 rfl (by decide) (kt) ?_
    refine wb_X9_readStatement_4 ?_
    by_cases w8 : w < 8
    · rw [if_pos w8, if_neg (by omega)]
      refine cl_X9_readStatement_10 rfl (by decide) (sp_t_hasRoom s) ?_
      refine wb_X9_readStatement_13 ?_
      by_cases n6 : n < 6
      · rw [b2i_t n6, if_neg (by decide)]
        refine cl_X9_readStatement_18 rfl (by decide) (sp_t_hasCardFor s w8) ?_
        refine wb_X9_readStatement_21 ?_
        rw [b2i_f (fun z => ok ⟨w8, n6, z⟩), if_pos rfl]
      · rw [b2i_f n6, if_pos rfl]
    · rw [if_neg w8, if_pos rfl]
end S80
