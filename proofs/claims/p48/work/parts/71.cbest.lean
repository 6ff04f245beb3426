/-! THE CLASS: the best reply -/
theorem sumZ_upd (f : Nat → Int) (a : Nat) (d : Int) : ∀ m, a < m → sumZ (updN f a (f a + d)) m = sumZ f m + d
  | 0, h => absurd h (Nat.not_lt_zero _)
  | m + 1, h => by
    show sumZ (updN f a (f a + d)) m + updN f a (f a + d) m = sumZ f m + f m + d
    by_cases q : a = m
    · subst q
      rw [updN_s, sumZ_congr (g := f) a (fun i hi => updN_o (by omega))]
      omega
    · rw [updN_o (by omega), sumZ_upd f a d m (by omega)]
      omega
section S71
variable {c n np nr : Nat} {K P B S T C TA AA : Nat → Nat} {U : Nat → Nat → Nat} {V W : Nat → Int} {h h' : AH}
abbrev cfC : List (Nat × Option Nat) := [(86, none), (132, none), (133, none), (129, some 5), (129, some 6)]
theorem sp_gc_lp (s : tS 0 c n K P B S h) (w : cW 0 W h) (r : cR 0 nr U V TA AA h) {p A m : Nat} {f : Nat → Nat} (hp : p < 3) (z : cSets c n K P B p h) (hM : v_sM c n K P B p ≤ 9) (fo : cFo A m f h) (ml : m ≤ 1620) (fq : ∀ t, t < m → f t < v_ways c K B n) : ∀ k t, t + k = m → ∀ cd X Y h1, fr cfC h h1 → cCo cd X Y h1 → cd ≤ t → (∀ k, k < cd → ∃ w, w < v_ways c K B n ∧ X k = v_crs c n K P B p w n) → (∀ q : Nat → Bool, sumZ (fun k => if q (X k) = true then Y k else 0) cd = sumZ (fun t => if q (v_crs c n K P B p (f t) n) = true then v_pay U V W c n (v_what c K B n (f t)) p nr else 0) t) → hI h1 129 6 = nI (v_mk K P p n) → ∃ h' cd X Y, XX true 5 66 57 [.ref 129, .ref 65, .ref 123, .int (nI p), .int (nI t), ax_junk, ax_junk, ax_junk] [] (h1) ((none, h')) ∧ fr cfC h h' ∧ cCo cd X Y h' ∧ cd ≤ 1620 ∧ (∀ k, k < cd → ∃ w, w < v_ways c K B n ∧ X k = v_crs c n K P B p w n) ∧ (∀ q : Nat → Bool, sumZ (fun k => if q (X k) = true then Y k else 0) cd = sumZ (fun t => if q (v_crs c n K P B p (f t) n) = true then v_pay U V W c n (v_what c K B n (f t)) p nr else 0) m) ∧ hI h' 129 6 = nI (v_mk K P p n) := by
  have al := s.al
  intro k
  induction k with
  | zero =>
    intro t ht cd X Y h1 f1 co hcd wit sm mk
    obtain rfl : t = m := ht
    have a2 := fo.1.1
    have c1 : hI h1 129 2 = nI t := (f1.I rfl).trans fo.2.1
    refine ⟨h1, cd, X, Y, ?_, f1, co, by omega, wit, sm, mk⟩
    refine wb_X4_gatherCourses_57 ?_
    rw [c1, if_neg (nI_nlt (Nat.le_refl _) (by omega))]
  | succ k ih =>
    intro t ht cd X Y h1 f1 co hcd wit sm mk
    have a2 := fo.1.1
    have c1 : hI h1 129 2 = nI m := (f1.I rfl).trans fo.2.1
    have c0 : hR h1 129 0 = rf A := (f1.R rfl).trans fo.1.2.1
    have cA : hI h1 A t = nI (f t) := (f1.I (by rcases a2 with rfl | rfl <;> rfl)).trans (fo.2.2 t (by omega))
    have rA := plR A a2 h1
    have wt := fq t (by omega)
    have s1 : tS 0 c n K P B S h1 := s.fr f1 rfl rfl
    obtain ⟨h2, r2, f2, x2⟩ := sp_t_go s1 (Nat.le_refl n) (w := f t) wt
    have f12 := f1.trans (f2.mono rfl)
    have s2 : tS 0 c n K P B S h2 := s.fr f12 rfl rfl
    have z2 : cSets c n K P B p h2 := cSets_fr z f12 rfl
    have cr := sp_courseOf s2 hp z2 hM wt x2
    have co2 : cCo cd X Y h2 := ⟨(f2.I rfl).trans co.1, fun k hk => ⟨(f2.L rfl).trans (co.2 k hk).1, (f2.I rfl).trans (co.2 k hk).2⟩⟩
    have xl : ∀ k, k < cd → X k < 2 ^ 36 := fun k hk => by
      obtain ⟨w, hw, e⟩ := wit k hk
      rw [e]
      exact v_crs36 s.ok hw hM (Nat.le_refl _)
    have cl := v_crs36 s.ok (p := p) wt hM (Nat.le_refl n)
    -- where it stands
    have find : ∀ k2 a, a + k2 = cd → (∀ b, b < a → X b ≠ v_crs c n K P B p (f t) n) → ∃ b, b ≤ cd ∧ (b < cd → X b = v_crs c n K P B p (f t) n) ∧ ∀ R, XX true 5 66 130 [.ref 129, .ref 65, .ref 123, .int (nI p), .int (nI t), .long (lN (v_crs c n K P B p (f t) n)), ax_junk, .int (nI b)] [] (h2) (R) → XX true 5 66 102 [.ref 129, .ref 65, .ref 123, .int (nI p), .int (nI t), .long (lN (v_crs c n K P B p (f t) n)), ax_junk, .int (nI a)] [] (h2) (R) := by
      intro k2
      induction k2 with
      | zero =>
        intro a ha _
        obtain rfl : a = cd := ha
        refine ⟨a, Nat.le_refl _, fun z => absurd z (Nat.lt_irrefl _), fun R u => ?_⟩
        refine wb_X4_gatherCourses_102 ?_
        rw [co2.1, if_neg (nI_nlt (Nat.le_refl _) (by omega))]
        exact u
      | succ k2 ih2 =>
        intro a ha no
        have xa := xl a (by omega)
        by_cases q : X a = v_crs c n K P B p (f t) n
        · refine ⟨a, by omega, fun _ => q, fun R u => ?_⟩
          refine wb_X4_gatherCourses_102 ?_
          rw [co2.1, if_pos (nI_lt (by omega) (by omega)), ix_nI (by omega), (co2.2 a (by omega)).1, if_pos ((lg_eq0 _ _).mpr (congrArg lN q))]
          exact ⟨in_nI (by omega) (by decide), u⟩
        · obtain ⟨b, b1, b2, b3⟩ := ih2 (a + 1) (by omega) (fun b hb => by
            by_cases e : b = a
            · rw [e]; exact q
            · exact no b (by omega))
          refine ⟨b, b1, b2, fun R u => ?_⟩
          refine wb_X4_gatherCourses_102 ?_
          rw [co2.1, if_pos (nI_lt (by omega) (by omega)), ix_nI (by omega), (co2.2 a (by omega)).1, if_neg (fun z => q ((pk_lEQ (by omega) (by omega)).mp ((lg_eq0 _ _).mp z))), nI_s]
          exact ⟨in_nI (by omega) (by decide), b3 R u⟩
    obtain ⟨b, b1, b2, b3⟩ := find cd 0 (by omega) (fun b hb => absurd hb (Nat.not_lt_zero _))
    have pre : ∀ R, XX true 5 66 130 [.ref 129, .ref 65, .ref 123, .int (nI p), .int (nI t), .long (lN (v_crs c n K P B p (f t) n)), ax_junk, .int (nI b)] [] (h2) (R) → XX true 5 66 57 [.ref 129, .ref 65, .ref 123, .int (nI p), .int (nI t), ax_junk, ax_junk, ax_junk] [] (h1) (R) := by
      intro R u
      refine wb_X4_gatherCourses_57 ?_
      rw [c1, if_pos (nI_lt (by omega) (by omega))]
      refine ⟨A, c0, 1620, rA.1, in_nI (by omega) (by decide), ?_⟩
      rw [rA.2.1, ix_nI (by omega), cA, s1.nn]
      refine cl_X4_gatherCourses_84 rfl (by decide) (r2) ?_
      refine wb_X4_gatherCourses_87 ?_
      refine cl_X4_gatherCourses_94 rfl (by decide) (cr) ?_
      refine wb_X4_gatherCourses_97 ?_
      exact b3 R u
    -- adds what is won
    have add : ∀ cd' X' Y' h3, fr cfC h h3 → cCo cd' X' Y' h3 → b < cd' → cd' ≤ t + 1 → X' b = v_crs c n K P B p (f t) n → (∀ k, k < cd' → ∃ w, w < v_ways c K B n ∧ X' k = v_crs c n K P B p w n) → (∀ q : Nat → Bool, sumZ (fun k => if q (X' k) = true then Y' k else 0) cd' = sumZ (fun t => if q (v_crs c n K P B p (f t) n) = true then v_pay U V W c n (v_what c K B n (f t)) p nr else 0) t) → hI h3 129 6 = nI (v_mk K P p n) → okX 0 h3 n (v_what c K B n (f t)) → ∃ h' cd X Y, XX true 5 66 166 [.ref 129, .ref 65, .ref 123, .int (nI p), .int (nI t), ax_junk, ax_junk, .int (nI b)] [] (h3) ((none, h')) ∧ fr cfC h h' ∧ cCo cd X Y h' ∧ cd ≤ 1620 ∧ (∀ k, k < cd → ∃ w, w < v_ways c K B n ∧ X k = v_crs c n K P B p w n) ∧ (∀ q : Nat → Bool, sumZ (fun k => if q (X k) = true then Y k else 0) cd = sumZ (fun t => if q (v_crs c n K P B p (f t) n) = true then v_pay U V W c n (v_what c K B n (f t)) p nr else 0) m) ∧ hI h' 129 6 = nI (v_mk K P p n) := by
      intro cd' X' Y' h3 f3 co3 hb hc ex wit3 sm3 mk3 x3
      have s3 : tS 0 c n K P B S h3 := s.fr f3 rfl rfl
      have wo := sp_won s3 (cW_fx w f3.fx al (by decide) (fun _ => rfl)) (cR_fx r f3.fx al (by decide) rfl rfl rfl) x3 (fun i hi => v_what_lt s.ok (Nat.le_refl _) (f t) hi) hp
      obtain ⟨h', cd2, X2, Y2, x, y⟩ := ih (t + 1) (by omega) cd' X' (updN Y' b (Y' b + v_pay U V W c n (v_what c K B n (f t)) p nr)) (ax_wr h3 133 b (.int (iI (Y' b + v_pay U V W c n (v_what c K B n (f t)) p nr)))) (f3.wr' (by simp [inS])) ⟨by rw [wr_Ia (by decide)]; exact co3.1, fun k hk => ⟨by rw [wr_La (by decide)]; exact (co3.2 k hk).1, by
        by_cases e : k = b
        · rw [e, wr_I, updN_s]
        · rw [wr_Ij e, updN_o e]
          exact (co3.2 k hk).2⟩⟩ hc wit3 (fun q => by
        have e1 : sumZ (fun t => if q (v_crs c n K P B p (f t) n) = true then v_pay U V W c n (v_what c K B n (f t)) p nr else 0) (t + 1) = sumZ (fun t => if q (v_crs c n K P B p (f t) n) = true then v_pay U V W c n (v_what c K B n (f t)) p nr else 0) t + (if q (v_crs c n K P B p (f t) n) = true then v_pay U V W c n (v_what c K B n (f t)) p nr else 0) := rfl
        rw [e1, ← sm3 q]
        have e2 := sumZ_upd (fun k => if q (X' k) = true then Y' k else 0) b (if q (v_crs c n K P B p (f t) n) = true then v_pay U V W c n (v_what c K B n (f t)) p nr else 0) cd' hb
        rw [← e2]
        refine sumZ_congr _ (fun k hk => ?_)
        by_cases e : k = b
        · rw [e, updN_s, updN_s, ex]
          by_cases y : q (v_crs c n K P B p (f t) n) = true
          · rw [if_pos y, if_pos y, if_pos y]
          · rw [if_neg y, if_neg y, if_neg y]
            rfl
        · rw [updN_o e, updN_o e]) (by rw [wr_Ia (by decide)]; exact mk3)
      refine ⟨h', cd2, X2, Y2, ?_, y⟩
      refine wb_X4_gatherCourses_166 ?_
      rw [ix_nI (by omega), (co3.2 b hb).2]
      refine ⟨in_nI (by omega) (by decide), ?_⟩
      refine cl_X4_gatherCourses_176 rfl (by decide) (wo) ?_
      refine wb_X4_gatherCourses_179 ?_
      rw [ix_nI (by omega), iI_add, nI_s]
      exact ⟨in_nI (by omega) (by decide), x⟩
    by_cases q : b < cd
    · obtain ⟨h', cd2, X2, Y2, x, y⟩ := add cd X Y h2 f12 co2 q (by omega) (b2 q) wit sm ((f2.I rfl).trans mk) x2
      refine ⟨h', cd2, X2, Y2, pre _ ?_, y⟩
      refine wb_X4_gatherCourses_130 ?_
      rw [co2.1, if_neg (fun z => by have := (nI_eq (by omega) (by omega)).mp z; omega)]
      exact x
    · obtain rfl : b = cd := by omega
      have f3 : fr [(132, none), (133, none), (129, some 5)] h2 (ax_wr (ax_wr (ax_wr h2 132 b (.long (lN (v_crs c n K P B p (f t) n)))) 133 b (.int (nI 0))) 129 5 (.int (nI (b + 1)))) := ((fr.wr (by simp [inS])).wr' (by simp [inS])).wr' rfl
      obtain ⟨h', cd2, X2, Y2, x, y⟩ := add (b + 1) (updN X b (v_crs c n K P B p (f t) n)) (updN Y b 0) _ (f12.trans (f3.mono rfl)) ⟨wr_I _ _ _ _, fun k hk => by
        by_cases e : k = b
        · rw [e, updN_s, updN_s]
          refine ⟨?_, ?_⟩
          · rw [wr_La (by decide), wr_La (by decide), wr_L]
          · rw [wr_Ia (by decide), wr_I, nI_iI]
            rfl
        · rw [updN_o e, updN_o e]
          refine ⟨?_, ?_⟩
          · rw [wr_La (by decide), wr_La (by decide), wr_Ln (fun z => e z.2)]
            exact (co2.2 k (by omega)).1
          · rw [wr_Ia (by decide), wr_Ij e, wr_Ia (by decide)]
            exact (co2.2 k (by omega)).2⟩ (by omega) (by omega) (updN_s _ _ _) (fun k hk => by
        by_cases e : k = b
        · rw [e, updN_s]
          exact ⟨f t, wt, rfl⟩
        · rw [updN_o e]
          exact wit k (by omega)) (fun q => by
        show sumZ _ b + (if q (updN X b (v_crs c n K P B p (f t) n) b) = true then updN Y b 0 b else 0) = _
        rw [← sm q, updN_s, updN_s, sumZ_congr b (fun k hk => by rw [updN_o (by omega), updN_o (by omega)])]
        by_cases y : q (v_crs c n K P B p (f t) n) = true
        · rw [if_pos y, Int.add_zero]
        · rw [if_neg y, Int.add_zero]) ((f3.I rfl).trans ((f2.I rfl).trans mk)) (fun i hi => (f3.I rfl).trans (x2 i hi))
      refine ⟨h', cd2, X2, Y2, pre _ ?_, y⟩
      refine wb_X4_gatherCourses_130 ?_
      rw [co2.1, if_pos rfl, ix_nI (by omega), wr_Ia (by decide), wr_Ia (by decide), co2.1, nI_s]
      exact ⟨in_nI (by omega) (by decide), in_nI (by omega) (by decide), x⟩
theorem sp_gatherCourses (s : tS 0 c n K P B S h) (w : cW 0 W h) (r : cR 0 nr U V TA AA h) {p A m : Nat} {f : Nat → Nat} (hp : p < 3) (z : cSets c n K P B p h) (hM : v_sM c n K P B p ≤ 9) (fo : cFo A m f h) (ml : m ≤ 1620) (fq : ∀ t, t < m → f t < v_ways c K B n) : ∃ h' cd X Y, XX true 5 66 0 [.ref 129, .ref 65, .ref 123, .int (nI p), ax_junk, ax_junk, ax_junk, ax_junk] [] (h) (none, h') ∧ fr cfC h h' ∧ cCo cd X Y h' ∧ cd ≤ 1620 ∧ (∀ k, k < cd → ∃ w, w < v_ways c K B n ∧ X k = v_crs c n K P B p w n) ∧ (∀ q : Nat → Bool, sumZ (fun k => if q (X k) = true then Y k else 0) cd = sumZ (fun t => if q (v_crs c n K P B p (f t) n) = true then v_pay U V W c n (v_what c K B n (f t)) p nr else 0) m) ∧ hI h' 129 6 = nI (v_mk K P p n) := by
  have h6 := s.n6
  have al := s.al
  have mkl := v_mk_le K P p
  have lp : ∀ k i, i + k = n → ∀ h1, fr [(129, some 5), (129, some 6)] h h1 → hI h1 129 5 = nI 0 → hI h1 129 6 = nI (v_mk K P p i) → ∃ h2, fr [(129, some 5), (129, some 6)] h h2 ∧ hI h2 129 5 = nI 0 ∧ hI h2 129 6 = nI (v_mk K P p n) ∧ ∀ R, XX true 5 66 57 [.ref 129, .ref 65, .ref 123, .int (nI p), .int (nI 0), ax_junk, ax_junk, ax_junk] [] (h2) (R) → XX true 5 66 13 [.ref 129, .ref 65, .ref 123, .int (nI p), .int (nI i), ax_junk, ax_junk, ax_junk] [] (h1) (R) := by
    intro k
    induction k with
    | zero =>
      intro i hi h1 f1 e5 e6
      obtain rfl : i = n := hi
      have s1 : tS 0 c i K P B S h1 := s.fr f1 rfl rfl
      refine ⟨h1, f1, e5, e6, fun R u => ?_⟩
      refine wb_X4_gatherCourses_13 ?_
      rw [s1.nn, if_neg (nI_nlt (Nat.le_refl _) (by omega))]
      exact u
    | succ k ih =>
      intro i hi h1 f1 e5 e6
      have s1 : tS 0 c n K P B S h1 := s.fr f1 rfl rfl
      have ml := mkl i
      have e : v_mk K P p (i + 1) = v_mk K P p i + (if picks K P p i then 1 else 0) := rfl
      have pre : ∀ R, XX true 5 66 35 [.ref 129, .ref 65, .ref 123, .int (nI p), .int (nI i), ax_junk, ax_junk, ax_junk] [.int (b2i (isChc (K i) ∧ P i = p))] (h1) (R) → XX true 5 66 13 [.ref 129, .ref 65, .ref 123, .int (nI p), .int (nI i), ax_junk, ax_junk, ax_junk] [] (h1) (R) := by
        intro R u
        refine wb_X4_gatherCourses_13 ?_
        rw [s1.nn, if_pos (nI_lt (by omega) (by omega))]
        refine cl_X4_gatherCourses_32 rfl (by decide) (sp_picksN s1 hp (by omega)) ?_
        exact u
      by_cases q : isChc (K i) ∧ P i = p
      · rw [if_pos q] at e
        obtain ⟨h2, a, b, d, u2⟩ := ih (i + 1) (by omega) (ax_wr h1 129 6 (.int (nI (v_mk K P p i + 1)))) (f1.wr' rfl) (by rw [wr_Ij (by decide)]; exact e5) (by rw [wr_I, e])
        refine ⟨h2, a, b, d, fun R u => pre R ?_⟩
        refine wb_X4_gatherCourses_35 ?_
        rw [b2i_t q, if_neg (by decide), e6, nI_s]
        refine wb_X4_gatherCourses_48 ?_
        rw [nI_s]
        exact u2 R u
      · rw [if_neg q, Nat.add_zero] at e
        obtain ⟨h2, a, b, d, u2⟩ := ih (i + 1) (by omega) h1 f1 e5 (by rw [e]; exact e6)
        refine ⟨h2, a, b, d, fun R u => pre R ?_⟩
        refine wb_X4_gatherCourses_35 ?_
        rw [b2i_f q, if_pos rfl]
        refine wb_X4_gatherCourses_48 ?_
        rw [nI_s]
        exact u2 R u
  obtain ⟨h2, f2, e5, e6, u2⟩ := lp n 0 (by omega) (ax_wr (ax_wr h 129 5 (.int (nI 0))) 129 6 (.int (nI 0))) ((fr.wr rfl).wr' rfl) (by rw [wr_Ij (by decide), wr_I]) (wr_I _ _ _ _)
  have a2 := fo.1.1
  have fo2 : cFo A m f h2 := ⟨cPl_fr fo.1 f2 rfl rfl, (f2.I rfl).trans fo.2.1, fun t ht => (f2.I (by rcases a2 with rfl | rfl <;> rfl)).trans (fo.2.2 t ht)⟩
  obtain ⟨h', cd, X, Y, x, g, y⟩ := sp_gc_lp (s.fr f2 rfl rfl) (cW_fx w f2.fx al (by decide) (fun _ => rfl)) (cR_fx r f2.fx al (by decide) rfl rfl rfl) hp (cSets_fr z f2 rfl) hM fo2 ml fq m 0 (by omega) 0 id (fun _ => 0) h2 fr.rfl' ⟨e5, fun k hk => absurd hk (Nat.not_lt_zero _)⟩ (Nat.zero_le _) (fun k hk => absurd hk (Nat.not_lt_zero _)) (fun q => rfl) e6
  refine ⟨h', cd, X, Y, ?_, (f2.mono rfl).trans g, y⟩
  refine wb_X4_gatherCourses_0 ?_
  exact u2 _ x
end S71
