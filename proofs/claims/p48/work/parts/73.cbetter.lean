/-! THE CLASS'S CALLS: better, settled -/
section S73
variable {c n np nr : Nat} {K P B S T C TA AA : Nat → Nat} {U : Nat → Nat → Nat} {V W : Nat → Int} {h h' : AH}
abbrev cPT (x : PT) (h : AH) : Prop := cP 0 x.1 x.2.1 x.2.2 h
theorem sp_tell1 {x : PT} (t : cPT x h) {p j v y : Nat} (hp : p < 4) (hj : j < 8) (hv : v < 524288) (hy : y < 3) : ∃ h' r, XX true 2 46 0 [.ref 87, .int (nI p), .int (nI j), .int (nI v), .int (nI y), ax_junk, ax_junk] [] (h) (some (.int (r)), h') ∧ fr [(88, none), (89, none), (87, some 2)] h h' ∧ cPT (v_tl1 x p j v y) h' := by
  unfold v_tl1
  by_cases q : v_pat x.1 x.2.1 p j v < 40
  · rw [if_pos q]
    obtain ⟨h', r, f, m⟩ := sp_tell t hp hj hv hy q
    exact ⟨h', _, r, f, m⟩
  · rw [if_neg q]
    exact ⟨h, _, sp_tell_no t hp hj hv q, fr.rfl', t⟩
theorem v_key_ne {p j v j' v' : Nat} (hp : p < 4) (hj : j < 8) (hj' : j' < 8) (h : ¬ (j = j' ∧ v = v')) : v_key p j' v' ≠ v_key p j v := by
  show ¬ v' * 32 + j' * 4 + p = v * 32 + j * 4 + p
  omega
/-- what is told for the sets ahead leaves the choice in a set as it was -/
theorem v_chs_tla (s : okS c n K P B) {p t : Nat} (hp : p < 3) (ht : t < v_sM c n K P B p) (y : Nat → Nat) (x0 : PT) : ∀ i, i ≤ t → v_chs (v_tla c n K P B p y i x0).1 (v_tla c n K P B p y i x0).2.1 (v_tla c n K P B p y i x0).2.2 B p (v_sJ c n K P B p t) (v_sV c n K P B p t) = v_chs x0.1 x0.2.1 x0.2.2 B p (v_sJ c n K P B p t) (v_sV c n K P B p t)
  | 0, _ => rfl
  | i + 1, hi => by
    have n6 := s.2.2.1
    have a := (v_set_is s ht).1
    have b := (v_set_is s (p := p) (t := i) (by omega)).1
    show v_chs (v_tl1 (v_tla c n K P B p y i x0) p (v_sJ c n K P B p i) (v_sV c n K P B p i) (y i)).1 (v_tl1 (v_tla c n K P B p y i x0) p (v_sJ c n K P B p i) (v_sV c n K P B p i) (y i)).2.1 (v_tl1 (v_tla c n K P B p y i x0) p (v_sJ c n K P B p i) (v_sV c n K P B p i) (y i)).2.2 B p (v_sJ c n K P B p t) (v_sV c n K P B p t) = _
    rw [v_chs_tl1 (v_key_ne (by omega) (by omega) (by omega) (fun z => by
      have := v_set_inj s (p := p) (t := i) (t' := t) (by omega) ht z.1 z.2
      omega))]
    exact v_chs_tla s hp ht y x0 i (by omega)
theorem sp_untold (s : okS c n K P B) (t : cP 0 np T C h) {p : Nat} (hp : p < 3) (z : cSets c n K P B p h) : XX true 3 74 0 [.ref 64, .int (nI p), ax_junk, ax_junk] [] (h) (some (.int (nI (cntN (v_new c n K P B np T p) (v_sM c n K P B p)))), h) := by
  have m8 := v_sM_le s p
  have n6 := s.2.2.1
  have h40 := t.1
  have lp : ∀ k i, i + k = v_sM c n K P B p → XX true 3 74 4 [.ref 64, .int (nI p), .int (nI (cntN (v_new c n K P B np T p) i)), .int (nI i)] [] (h) ((some (.int (nI (cntN (v_new c n K P B np T p) (v_sM c n K P B p)))), h)) := by
    intro k
    induction k with
    | zero =>
      intro i hi
      have e : i = v_sM c n K P B p := hi
      refine wb_X11_untold_4 ?_
      rw [z.1, if_neg (nI_nlt (by omega) (by omega)), e]
    | succ k ih =>
      intro i hi
      have zt := z.2 i (by omega)
      have si := v_set_is s (p := p) (t := i) (by omega)
      have vl := v_sV_lt c n K P B p i
      have g := ih (i + 1) (by omega)
      have al : 0 ≤ v_pat np T p (v_sJ c n K P B p i) (v_sV c n K P B p i) ∧ v_pat np T p (v_sJ c n K P B p i) (v_sV c n K P B p i) ≤ 0 + np := v_at_le (fun k => decide (T k = v_key p (v_sJ c n K P B p i) (v_sV c n K P B p i))) np 0
      refine wb_X11_untold_4 ?_
      rw [z.1, if_pos (nI_lt (by omega) (by omega)), ix_nI (by omega), zt.1, zt.2.1]
      refine ⟨in_nI (by omega) (by decide), in_nI (by omega) (by decide), ?_⟩
      refine cl_X11_untold_41 rfl (by decide) (sp_find t (by omega) (by omega) vl) ?_
      refine wb_X11_untold_44 ?_
      by_cases q : v_pat np T p (v_sJ c n K P B p i) (v_sV c n K P B p i) = np
      · rw [cntN_yes (decide_eq_true q)] at g
        rw [if_pos q, if_pos (by decide)]
        refine wb_X11_untold_50 ?_
        rw [nI_s, nI_s]
        exact g
      · rw [cntN_not (by simp [q])] at g
        have cl := (t.2.2 (v_pat np T p (v_sJ c n K P B p i) (v_sV c n K P B p i)) (by omega)).2.1
        rw [if_neg q, if_neg (nI_n0 (by omega))]
        refine wb_X11_untold_50 ?_
        rw [nI_s]
        exact g
  refine wb_X11_untold_0 ?_
  exact lp (v_sM c n K P B p) 0 (by omega)
theorem sp_first {t : Nat} (ht : t < 9) : XX true 1 75 0 [.ref 129, .int (nI t)] [] (h) (some (.int (hI h 135 t)), h) := by
  refine wb_X4_first_0 ?_
  rw [if_neg (nI_n0 (by omega)), if_pos (nI_lt ht (by omega)), ix_nI (by omega)]
  exact ⟨in_nI ht (by decide), rfl⟩
abbrev cfBe : List (Nat × Option Nat) := [(88, none), (89, none), (87, some 2)] ++ cfRp
theorem co_better (s : tS 0 c n K P B S h) (t : cP 0 np T C h) (r : cR 0 nr U V TA AA h) (w : cW 0 W h) {A : Nat} (pl : cPl A h) (p : Int32) : (isBetter c n K P B np T p → ∃ h' A', XX true 7 73 0 [.ref 64, .int (p), ax_junk, ax_junk, ax_junk] [] (h) (some (.int (a_better c n K P B (v_chs np T C B) U V W nr np T p)), h') ∧ fr cfBe h h' ∧ cPl A' h' ∧ cPT (v_tla c n K P B (ix p) (v_rep c n K P B (v_chs np T C B) U V W nr (ix p)).2 (v_sM c n K P B (ix p)) (np, T, C)) h') ∧ (¬ isBetter c n K P B np T p → ∃ h' A', XX true 7 73 0 [.ref 64, .int (p), ax_junk, ax_junk, ax_junk] [] (h) (some (.int (a_better c n K P B (v_chs np T C B) U V W nr np T p)), h') ∧ fr cfRp h h' ∧ cPl A' h') := by
  have h6 := s.n6
  have al := s.al
  have h40 := t.1
  unfold a_better
  by_cases q : isPl p
  · obtain ⟨a, ha, rfl⟩ := q.ex
    have ea : ix (nI a) = a := ix_nI (by omega)
    unfold isBetter
    simp only [ea]
    have m8 := v_sM_le s.ok a
    obtain ⟨h1, r1, f1, z1⟩ := sp_isMuchFor s ha
    have s1 : tS 0 c n K P B S h1 := s.fr f1 rfl rfl
    have pl1 : cPl A h1 := cPl_fr pl f1 rfl rfl
    have t1 := cP_fr t f1 rfl
    have cn := cntN_le (v_new c n K P B np T a) (v_sM c n K P B a)
    have pre : ∀ R, XX true 7 73 15 [.ref 64, .int (nI a), ax_junk, ax_junk, ax_junk] [.int (b2i (muchP c n K P B a))] (h1) (R) → XX true 7 73 0 [.ref 64, .int (nI a), ax_junk, ax_junk, ax_junk] [] (h) (R) := by
      intro R u
      refine wb_X11_better_0 ?_
      refine cl_X11_better_1 rfl (by decide) (cp_isPlayer _ _) ?_
      refine wb_X11_better_4 ?_
      rw [b2i_t q, if_neg (by decide)]
      refine cl_X11_better_12 rfl (by decide) (r1) ?_
      exact u
    by_cases q2 : muchP c n K P B a
    · refine ⟨fun u => absurd q2 u.2.1, fun _ => ⟨h1, A, pre _ ?_, f1.mono rfl, pl1⟩⟩
      refine wb_X11_better_15 ?_
      rw [b2i_t q2, if_neg (by decide), if_pos q, if_pos q2]
    · have pre2 : ∀ R, XX true 7 73 36 [.ref 64, .int (nI a), ax_junk, ax_junk, ax_junk] [.int (nI (cntN (v_new c n K P B np T a) (v_sM c n K P B a))), .int (nI np)] (h1) (R) → XX true 7 73 0 [.ref 64, .int (nI a), ax_junk, ax_junk, ax_junk] [] (h) (R) := by
        intro R u
        refine pre _ ?_
        refine wb_X11_better_15 ?_
        rw [b2i_f q2, if_pos rfl, t1.2.1]
        refine cl_X11_better_33 rfl (by decide) (sp_untold s.ok t1 ha z1) ?_
        exact u
      by_cases q3 : np + cntN (v_new c n K P B np T a) (v_sM c n K P B a) ≤ 40
      · refine ⟨fun _ => ?_, fun u => absurd ⟨q, q2, q3⟩ u⟩
        have hM := much9 (p := a) s.ok (by omega)
        obtain ⟨h2, A', r2, f2, pl2, e2⟩ := sp_best s1 t1 (cW_fx w f1.fx al (by decide) (fun _ => rfl)) (cR_fx r f1.fx al (by decide) rfl rfl rfl) pl1 ha z1 (by omega)
        have s2 : tS 0 c n K P B S h2 := s1.fr f2 rfl rfl
        have z2 := cSets_fr z1 f2 rfl
        have t2 := cP_fr t1 f2 rfl
        have yt := v_rep_tr (nr := nr) (U := U) (V := V) (W := W) s.ok (v_chs np T C B) a
        generalize hy : (v_rep c n K P B (v_chs np T C B) U V W nr a).2 = y at *
        have cl := cntN_le (v_oth c n K P B (v_chs np T C B) y a) (v_sM c n K P B a)
        have lp : ∀ k i, i + k = v_sM c n K P B a → ∀ h3, fr [(88, none), (89, none), (87, some 2)] h2 h3 → cPT (v_tla c n K P B a y i (np, T, C)) h3 → ∃ h', XX true 7 73 66 [.ref 64, .int (nI a), .int (nI (cntN (v_oth c n K P B (v_chs np T C B) y a) i)), .int (nI i), ax_junk] [] (h3) ((some (.int (nI (cntN (v_oth c n K P B (v_chs np T C B) y a) (v_sM c n K P B a)))), h')) ∧ fr [(88, none), (89, none), (87, some 2)] h2 h' ∧ cPT (v_tla c n K P B a y (v_sM c n K P B a) (np, T, C)) h' := by
          intro k
          induction k with
          | zero =>
            intro i hi h3 f3 m3
            have e : i = v_sM c n K P B a := hi
            have z3 := cSets_fr z2 f3 rfl
            rw [e] at m3
            refine ⟨h3, ?_, f3, m3⟩
            refine wb_X11_better_66 ?_
            rw [z3.1, if_neg (nI_nlt (by omega) (by omega)), e]
          | succ k ih =>
            intro i hi h3 f3 m3
            have z3 := cSets_fr z2 f3 rfl
            have s3 : tS 0 c n K P B S h3 := s2.fr f3 rfl rfl
            have zt := z3.2 i (by omega)
            have si := v_set_is s.ok (p := a) (t := i) (by omega)
            have vl := v_sV_lt c n K P B a i
            have b3 := v_setB s.ok (p := a) (t := i) (by omega)
            have yi := yt i (by omega)
            have fi := sp_first (h := h3) (t := i) (by omega)
            rw [(f3.I rfl).trans (e2 i (by omega))] at fi
            have ch := sp_choice s3 m3 (p := a) (by omega) si.1 vl
            rw [v_chs_tla s.ok ha (t := i) (by omega) y (np, T, C) i (Nat.le_refl _)] at ch
            have cc := v_chs_lt (np := np) (T := T) (C := C) (B := B) (p := a) (j := v_sJ c n K P B a i) (v := v_sV c n K P B a i) (by omega)
            obtain ⟨h4, rr, r4, f4, m4⟩ := sp_tell1 m3 (p := a) (j := v_sJ c n K P B a i) (v := v_sV c n K P B a i) (y := y i) (by omega) (by omega) vl (by omega)
            obtain ⟨h', x, g⟩ := ih (i + 1) (by omega) h4 (f3.trans f4) m4
            have g121 : XX true 7 73 121 [.ref 64, .int (nI a), .int (nI (cntN (v_oth c n K P B (v_chs np T C B) y a) (i + 1))), .int (nI i), .int (nI (y i))] [] (h3) ((some (.int (nI (cntN (v_oth c n K P B (v_chs np T C B) y a) (v_sM c n K P B a)))), h')) := by
              refine wb_X11_better_121 ?_
              rw [ix_nI (by omega), zt.1, zt.2.1]
              refine ⟨in_nI (by omega) (by decide), in_nI (by omega) (by decide), ?_⟩
              refine cl_X11_better_149 rfl (by decide) (r4) ?_
              refine wb_X11_better_152 ?_
              rw [nI_s]
              exact x
            refine ⟨h', ?_, g⟩
            refine wb_X11_better_66 ?_
            rw [z3.1, if_pos (nI_lt (by omega) (by omega))]
            refine cl_X11_better_82 rfl (by decide) (fi) ?_
            refine wb_X11_better_85 ?_
            rw [ix_nI (by omega), zt.1, zt.2.1]
            refine ⟨in_nI (by omega) (by decide), in_nI (by omega) (by decide), ?_⟩
            refine cl_X11_better_110 rfl (by decide) (ch) ?_
            refine wb_X11_better_113 ?_
            by_cases w : v_chs np T C B a (v_sJ c n K P B a i) (v_sV c n K P B a i) = y i
            · rw [cntN_not (by simp [w])] at g121
              rw [if_pos (congrArg nI w)]
              exact g121
            · rw [cntN_yes (by simp [w])] at g121
              rw [if_neg (fun z => w ((nI_eq (by omega) (by omega)).mp z)), nI_s]
              exact g121
        obtain ⟨h', x, g, m'⟩ := lp (v_sM c n K P B a) 0 (by omega) h2 fr.rfl' t2
        refine ⟨h', A', pre2 _ ?_, ((f1.mono rfl).trans (f2.mono rfl)).trans (g.mono rfl), cPl_fr pl2 g rfl rfl, m'⟩
        refine wb_X11_better_36 ?_
        rw [nI_add, if_pos (nI_le q3 (by omega)), if_pos q, if_neg q2, if_pos q3]
        refine cl_X11_better_58 rfl (by decide) (r2) ?_
        refine wb_X11_better_61 ?_
        exact x
      · refine ⟨fun u => absurd u.2.2 q3, fun _ => ⟨h1, A, pre2 _ ?_, f1.mono rfl, pl1⟩⟩
        refine wb_X11_better_36 ?_
        rw [nI_add, if_neg (fun y => q3 ((nI_leI (by omega) (by omega)).mp y)), if_pos q, if_neg q2, if_neg q3]
  · refine ⟨fun u => absurd u.1 q, fun _ => ⟨h, A, ?_, fr.rfl', pl⟩⟩
    rw [if_neg q]
    refine wb_X11_better_0 ?_
    refine cl_X11_better_1 rfl (by decide) (cp_isPlayer _ _) ?_
    refine wb_X11_better_4 ?_
    rw [b2i_f q, if_pos rfl]
theorem co_settled (s : tS 0 c n K P B S h) (t : cP 0 np T C h) (r : cR 0 nr U V TA AA h) (w : cW 0 W h) {A : Nat} (pl : cPl A h) : ∃ h' A' x, XX true 7 76 0 [.ref 64, ax_junk] [] (h) (some (.int (x)), h') ∧ fr cfRp h h' ∧ cPl A' h' ∧ isSettled c n K P B (v_chs np T C B) U V W nr x := by
  have al := s.al
  have wl := v_ways_le s.ok (Nat.le_refl n)
  have lp2 : ∀ k p, p + k = 3 → (∀ p, p < 3 → ¬ muchP c n K P B p) → (∀ p', p' < p → bestP c n K P B (v_chs np T C B) U V W nr p') → ∀ h1 A1, fr cfRp h h1 → cPl A1 h1 → ∃ h' A' x, XX true 7 76 26 [.ref 64, .int (nI p)] [] (h1) ((some (.int x), h')) ∧ fr cfRp h h' ∧ cPl A' h' ∧ isSettled c n K P B (v_chs np T C B) U V W nr x := by
    intro k
    induction k with
    | zero =>
      intro p hp nm all h1 A1 f1 pl1
      obtain rfl : p = 3 := hp
      refine ⟨h1, A1, nI 1, ?_, f1, pl1, Or.inr (Or.inl ⟨nm, all, rfl⟩)⟩
      refine wb_X11_settled_26 ?_
      rw [if_neg (by decide)]
    | succ k ih =>
      intro p hp nm all h1 A1 f1 pl1
      have s1 : tS 0 c n K P B S h1 := s.fr f1 rfl rfl
      obtain ⟨h2, r2, f2, z2⟩ := sp_gather s1 (p := p) (by omega)
      have f12 : fr cfRp h h2 := f1.trans (f2.mono rfl)
      obtain ⟨h3, A3, r3, f3, pl3, _⟩ := sp_best (s.fr f12 rfl rfl) (cP_fr t f12 rfl) (cW_fx w f12.fx al (by decide) (fun _ => rfl)) (cR_fx r f12.fx al (by decide) rfl rfl rfl) (cPl_fr pl1 f2 rfl rfl) (p := p) (by omega) z2 (by have := nm p (by omega); omega)
      have f13 : fr cfRp h h3 := f12.trans (f3.mono rfl)
      obtain ⟨h4, A4, r4, f4, pl4⟩ := sp_together (s.fr f13 rfl rfl) (cP_fr t f13 rfl) (cW_fx w f13.fx al (by decide) (fun _ => rfl)) (cR_fx r f13.fx al (by decide) rfl rfl rfl) pl3 (p := p) (by omega)
      have f14 : fr cfRp h h4 := f13.trans (f4.mono rfl)
      have rb := v_rep_le (nr := nr) (U := U) (V := V) (W := W) s.ok r.2.1.1 (fun i hi => (w i hi).2) (v_chs np T C B) p
      have sb := sumZ_le (v_sumf_le (nr := nr) (U := U) (V := V) (W := W) s.ok r.2.1.1 (fun i hi => (w i hi).2) (v_chs np T C B) 3 p) (v_ways c K B n)
      have pre : ∀ R, XX true 7 76 74 [.ref 64, .int (nI p)] [.int (iI (sumZ (v_sumf c n K P B (v_chs np T C B) U V W nr 3 p) (v_ways c K B n))), .int (iI (v_rep c n K P B (v_chs np T C B) U V W nr p).1)] (h4) (R) → XX true 7 76 26 [.ref 64, .int (nI p)] [] (h1) (R) := by
        intro R u
        refine wb_X11_settled_26 ?_
        rw [if_pos (nI_lt (by omega) (by omega))]
        refine cl_X11_settled_43 rfl (by decide) (r2) ?_
        refine wb_X11_settled_46 ?_
        refine cl_X11_settled_59 rfl (by decide) (r3) ?_
        refine wb_X11_settled_62 ?_
        refine cl_X11_settled_71 rfl (by decide) (r4) ?_
        exact u
      by_cases q : bestP c n K P B (v_chs np T C B) U V W nr p
      · obtain ⟨h', A', x, y, g⟩ := ih (p + 1) (by omega) nm (fun p' hp' => by
          by_cases e : p' = p
          · rw [e]; exact q
          · exact all p' (by omega)) h4 A4 f14 pl4
        refine ⟨h', A', x, pre _ ?_, g⟩
        refine wb_X11_settled_74 ?_
        rw [if_pos (congrArg iI q), nI_s]
        exact y
      · refine ⟨h4, A4, nI 0, pre _ ?_, f14, pl4, Or.inr (Or.inr ⟨nm, ⟨p, by omega, q⟩, rfl⟩)⟩
        refine wb_X11_settled_74 ?_
        rw [if_neg (fun z => q (by
          have := congrArg Int32.toInt z
          rw [iI_toInt (by omega) (by omega), iI_toInt (by omega) (by omega)] at this
          exact this))]
  have lp1 : ∀ k p, p + k = 3 → (∀ p', p' < p → ¬ muchP c n K P B p') → ∀ h1, fr cfRp h h1 → cPl A h1 → ∃ h' A' x, XX true 7 76 2 [.ref 64, .int (nI p)] [] (h1) ((some (.int x), h')) ∧ fr cfRp h h' ∧ cPl A' h' ∧ isSettled c n K P B (v_chs np T C B) U V W nr x := by
    intro k
    induction k with
    | zero =>
      intro p hp nm h1 f1 pl1
      obtain rfl : p = 3 := hp
      obtain ⟨h', A', x, y, g⟩ := lp2 3 0 rfl nm (fun p' hp' => absurd hp' (Nat.not_lt_zero _)) h1 A f1 pl1
      refine ⟨h', A', x, ?_, g⟩
      refine wb_X11_settled_2 ?_
      rw [if_neg (by decide)]
      exact y
    | succ k ih =>
      intro p hp nm h1 f1 pl1
      obtain ⟨h2, r2, f2, z2⟩ := sp_isMuchFor (s.fr f1 rfl rfl) (p := p) (by omega)
      have f12 : fr cfRp h h2 := f1.trans (f2.mono rfl)
      have pl2 : cPl A h2 := cPl_fr pl1 f2 rfl rfl
      by_cases q : muchP c n K P B p
      · refine ⟨h2, A, -nI 5, ?_, f12, pl2, Or.inl ⟨⟨p, by omega, q⟩, rfl⟩⟩
        refine wb_X11_settled_2 ?_
        rw [if_pos (nI_lt (by omega) (by omega))]
        refine cl_X11_settled_9 rfl (by decide) (r2) ?_
        refine wb_X11_settled_12 ?_
        rw [b2i_t q, if_neg (by decide)]
      · obtain ⟨h', A', x, y, g⟩ := ih (p + 1) (by omega) (fun p' hp' => by
          by_cases e : p' = p
          · rw [e]; exact q
          · exact nm p' (by omega)) h2 f12 pl2
        refine ⟨h', A', x, ?_, g⟩
        refine wb_X11_settled_2 ?_
        rw [if_pos (nI_lt (by omega) (by omega))]
        refine cl_X11_settled_9 rfl (by decide) (r2) ?_
        refine wb_X11_settled_12 ?_
        rw [b2i_f q, if_pos rfl, nI_s]
        exact y
  obtain ⟨h', A', x, y, g⟩ := lp1 3 0 rfl (fun p' hp' => absurd hp' (Nat.not_lt_zero _)) h fr.rfl' pl
  refine ⟨h', A', x, ?_, g⟩
  refine wb_X11_settled_0 ?_
  exact y
end S73
