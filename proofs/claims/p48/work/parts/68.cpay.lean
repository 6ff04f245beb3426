/-! THE CLASS'S CALLS: odds, pay, means, the stake, rules -/
section S68
variable {c n np nr : Nat} {K P B S T C TA AA : Nat → Nat} {U : Nat → Nat → Nat} {V W : Nat → Int} {h h' : AH}
theorem lN_nz {x : Nat} (x1 : 0 < x) (x2 : x < 2 ^ 63) : (!decide (lN x = 0)) = true := by
  simp only [Bool.not_eq_true', decide_eq_false_iff_not]
  intro z
  have := (pk_lEQ (b := 0) (by omega) (by omega)).mp z
  omega
theorem cp_divisor {a b : Nat} (ha : a < 2 ^ 63) (hb : 1 ≤ b) (hb2 : b < 2048) (h : AH) : XX true 1 37 0 [.long (lN a), ax_junk, .long (lN b), ax_junk, ax_junk, ax_junk, ax_junk, ax_junk, ax_junk, ax_junk, ax_junk] [] (h) (some (.long (lN (Nat.gcd a b))), h) := by
  have fin : ∀ A, A < 2 ^ 63 → 1 ≤ A → XX true 1 37 45 [ax_junk, ax_junk, ax_junk, ax_junk, .long (lN A), ax_junk, ax_junk, ax_junk, ax_junk, ax_junk, ax_junk] [] (h) ((some (.long (lN A)), h)) := by
    intro A hA h1
    refine wb_X11_divisor_45 ?_
    rw [if_neg (fun z => by
      have := Int64.lt_iff_toInt_lt.mp z
      rw [pk_lT hA, pk_lT (by decide)] at this
      omega)]
  have lp : ∀ k B A st, B < 2 ^ k → B < 2048 → A < 2 ^ 63 → 1 ≤ Nat.gcd A B → st + 2 * k ≤ 199 → XX true 1 37 9 [ax_junk, ax_junk, ax_junk, ax_junk, .long (lN A), ax_junk, .long (lN B), ax_junk, .int (nI st), ax_junk, ax_junk] [] (h) ((some (.long (lN (Nat.gcd A B))), h)) := by
    intro k
    induction k with
    | zero =>
      intro B A st hB _ hA hg hs
      obtain rfl : B = 0 := by omega
      rw [Nat.gcd_zero_right] at hg ⊢
      refine wb_X11_divisor_9 ?_
      rw [if_pos (nI_lt (by omega) (by omega)), if_pos ((lg_eq0 _ _).mpr rfl)]
      exact fin A hA hg
    | succ k ih =>
      intro B A st hB hB2 hA hg hs
      by_cases q : B = 0
      · subst q
        rw [Nat.gcd_zero_right] at hg ⊢
        refine wb_X11_divisor_9 ?_
        rw [if_pos (nI_lt (by omega) (by omega)), if_pos ((lg_eq0 _ _).mpr rfl)]
        exact fin A hA hg
      · have nz : ∀ B', B' ≠ 0 → B' < 2048 → ¬ lN B' = lN 0 := fun B' q h z => q ((pk_lEQ (by omega) (by omega)).mp z)
        have e1 : Nat.gcd A B = Nat.gcd B (A % B) := by rw [Nat.gcd_comm A B, Nat.gcd_rec, Nat.gcd_comm]
        have lt : A % B < B := Nat.mod_lt _ (by omega)
        refine wb_X11_divisor_9 ?_
        rw [if_pos (nI_lt (by omega) (by omega)), if_neg (fun z => nz B q hB2 ((lg_eq0 _ _).mp z)), nI_s]
        refine ⟨lN_nz (by omega) (by omega), ?_⟩
        rw [pk_lRem hA (by omega) (by omega), e1]
        rw [e1] at hg
        by_cases q2 : A % B = 0
        · rw [q2, Nat.gcd_zero_right] at hg ⊢
          refine wb_X11_divisor_9 ?_
          rw [if_pos (nI_lt (by omega) (by omega)), if_pos ((lg_eq0 _ _).mpr rfl)]
          exact fin B (by omega) hg
        · have e2 : Nat.gcd B (A % B) = Nat.gcd (A % B) (B % (A % B)) := by rw [Nat.gcd_comm B (A % B), Nat.gcd_rec, Nat.gcd_comm]
          have lt2 : B % (A % B) < A % B := Nat.mod_lt _ (by omega)
          have half : B % (A % B) < 2 ^ k := by
            have d := Nat.div_add_mod B (A % B)
            have d1 : 1 ≤ B / (A % B) := Nat.div_pos (by omega) (by omega)
            have d2 : A % B ≤ (A % B) * (B / (A % B)) := Nat.le_mul_of_pos_right _ d1
            have p2 : 2 ^ (k + 1) = 2 * 2 ^ k := by rw [Nat.pow_succ, Nat.mul_comm]
            omega
          refine wb_X11_divisor_9 ?_
          rw [if_pos (nI_lt (by omega) (by omega)), if_neg (fun z => nz (A % B) q2 (by omega) ((lg_eq0 _ _).mp z)), nI_s]
          refine ⟨lN_nz (by omega) (by omega), ?_⟩
          rw [pk_lRem (by omega) (by omega) (by omega), e2]
          rw [e2] at hg
          exact ih _ _ _ half (by omega) (by omega) hg (by omega)
  have g := lp 11 b a 0 (by omega) hb2 ha (Nat.gcd_pos_of_pos_right _ hb) (by decide)
  refine wb_X11_divisor_0 ?_
  exact g
theorem cp_share {A : Int} {D : Nat} (h1 : -4611686018427387904 ≤ A) (h2 : A ≤ 4611686018427387904) (hD : 1 ≤ D) (hD2 : D < 2048) (part : Int32) (h : AH) : XX true 2 35 0 [.long (lI A), ax_junk, .long (lN D), ax_junk, .int (part), ax_junk, ax_junk] [] (h) (some (.long (v_frac A D part)), h) := by
  have g1 : 0 < Nat.gcd A.natAbs D := Nat.gcd_pos_of_pos_right _ (by omega)
  have g2 : Nat.gcd A.natAbs D ≤ D := Nat.gcd_le_right _ (by omega)
  have ab : (if lN 0 < lI A then lI A else -lI A) = lN A.natAbs := by
    have AT : (lI A).toInt = A := lI_toInt (by omega) (by omega)
    by_cases q : 0 < A
    · rw [if_pos (Int64.lt_iff_toInt_lt.mpr (by rw [AT, pk_lT (by decide)]; exact q)), lN_lI]
      congr 1
      omega
    · rw [if_neg (fun z => q (by have := Int64.lt_iff_toInt_lt.mp z; rw [AT, pk_lT (by decide)] at this; exact this))]
      apply Int64.toInt_inj.mp
      rw [Int64.toInt_neg, AT, pk_lT (by omega), Int.bmod_eq_of_le (by omega) (by omega)]
      omega
  unfold v_frac
  refine wb_X11_share_0 ?_
  rw [show (0 : Int64) = lN 0 from rfl, ab]
  refine cl_X11_share_5 rfl (by decide) (cp_divisor (by omega) hD hD2 h) ?_
  refine wb_X11_share_8 ?_
  have z := lN_nz (x := Nat.gcd A.natAbs D) g1 (by omega)
  by_cases q : part = nI 0
  · rw [if_pos q, if_pos q]
    exact ⟨z, rfl⟩
  · rw [if_neg q, if_neg q]
    exact ⟨z, rfl⟩
theorem cp_isProduct (a : Int64) {s : Nat} (h0 : 0 < s) (hs : s < 2 ^ 63) (h : AH) : XX true 1 56 0 [.long (a), ax_junk, .long (lN s), ax_junk] [] (h) (some (.int (b2i (v_fit a s))), h) := by
  have sT : (lN s).toInt = s := pk_lT hs
  have nz := lN_nz h0 hs
  have e1 : (lN 9223372036854775807 / lN s).toInt = 9223372036854775807 / (s : Int) := by
    rw [pk_lDiv (by decide) h0 hs, pk_lT (Nat.lt_of_le_of_lt (Nat.div_le_self _ _) (by decide))]
    exact Int.natCast_ediv _ _
  have e2 : (-lN 9223372036854775808 / lN s).toInt = -(9223372036854775808 / (s : Int)) := by
    have ne : lN s ≠ -1 := by
      intro z
      have := congrArg Int64.toInt z
      rw [sT, show (-1 : Int64).toInt = -1 by decide] at this
      omega
    rw [Int64.toInt_div_of_ne_right _ _ ne, sT, show (-lN 9223372036854775808 : Int64).toInt = -9223372036854775808 by decide, Int.neg_tdiv, Int.tdiv_eq_ediv_of_nonneg (by decide)]
  have f1 : a.toInt ≤ 9223372036854775807 / (s : Int) ↔ a.toInt * s < 9223372036854775808 := by
    rw [Int.le_ediv_iff_mul_le (by omega)]
    omega
  have f2 : -(9223372036854775808 / (s : Int)) ≤ a.toInt ↔ -9223372036854775808 ≤ a.toInt * s := by
    have : -a.toInt ≤ 9223372036854775808 / (s : Int) ↔ -a.toInt * s ≤ 9223372036854775808 := Int.le_ediv_iff_mul_le (by omega)
    rw [Int.neg_mul] at this
    omega
  refine wb_X11_isProduct_0 ?_
  rw [if_neg (fun z => by
    have := Int64.le_iff_toInt_le.mp ((lg_le0 _ _).mp z)
    rw [sT, pk_lT (by decide)] at this
    omega)]
  refine ⟨nz, ?_⟩
  by_cases q : a.toInt * s < 9223372036854775808
  · rw [if_pos ((lg_le0 _ _).mpr (Int64.le_iff_toInt_le.mpr (by rw [e1]; exact f1.mpr q)))]
    refine ⟨nz, ?_⟩
    by_cases y : -9223372036854775808 ≤ a.toInt * s
    · rw [if_neg (fun z => by
        have := Int64.lt_iff_toInt_lt.mp ((lg_lt0 _ _).mp z)
        rw [e2] at this
        have := f2.mpr y
        omega), b2i_t ⟨y, q⟩]
    · rw [if_pos ((lg_lt0 _ _).mpr (Int64.lt_iff_toInt_lt.mpr (by
        rw [e2]
        apply Classical.byContradiction
        intro z
        exact y (f2.mp (by omega))))), b2i_f (fun z => y z.1)]
  · rw [if_neg (fun z => q (f1.mp (by
      have := Int64.le_iff_toInt_le.mp ((lg_le0 _ _).mp z)
      rw [e1] at this
      exact this))), b2i_f (fun z => q z.2)]
theorem no_1 : -lN 4611686018427387905 = lNO 1 := by decide
theorem no_5 : -lN 4611686018427387909 = lNO 5 := by decide
theorem co_odds (s : tS 0 c n K P B S h) (t : cP 0 np T C h) {A : Nat} (pl : cPl A h) (p j v i e part : Int32) : ∃ h' A', XX true 6 24 0 [.ref 64, .int (p), .int (j), .int (v), .int (i), .int (e), .int (part), ax_junk] [] (h) (some (.long (a_odds c n K P B (v_chs np T C B) p j v i e part)), h') ∧ fr cfF h h' ∧ cPl A' h' := by
  have h6 := s.n6
  unfold a_odds
  by_cases q : isPl p ∧ isLe n j ∧ isLt (ix j) i ∧ isPt part
  · obtain ⟨q0, q1, q2, q3⟩ := id q
    obtain ⟨p', hp, rfl⟩ := q0.ex
    obtain ⟨j', hj, rfl⟩ := q1.ex (by omega)
    have ej : ix (nI j') = j' := ix_nI (by omega)
    have ah := cp_isAhead s i (nI j')
    rw [b2i_t ⟨q1, q2⟩] at ah
    rw [if_pos q]
    rw [ej] at q2
    obtain ⟨i', hi, rfl⟩ := q2.ex (by omega)
    rw [ej, ix_nI (by omega), ix_nI (by omega)]
    obtain ⟨h1, A', m, f, r1, f1, fo, en⟩ := sp_follow s t (but := 3) (b := -nI 1) hj (fun x hx => ⟨fun z => absurd z (nI_ne1 (by omega)), fun z => absurd z (by omega)⟩) pl
    have s1 : tS 0 c n K P B S h1 := s.fr f1 rfl rfl
    obtain ⟨h2, r2, f2⟩ := sp_plAlike s1 hj hp fo en v
    have s2 : tS 0 c n K P B S h2 := s1.fr f2 rfl rfl
    have fo2 := cFo_fr fo f2 rfl
    obtain ⟨h3, r3, f3⟩ := sp_plAlikeW s2 hj hi hp fo2 en v e
    have fo3 := cFo_fr fo2 f3 rfl
    have ca : cntN (fun t => v_al c K P B p' j' v (f t)) m = cntN (v_all c n K P B (v_chs np T C B) p' j' v) (v_ways c K B j') := enumS.cnt (pl := fun w => v_pl K P (v_chs np T C B) 3 (v_what c K B j' w) j') _ en
    have ct : cntN (fun t => v_al c K P B p' j' v (f t) && decide (nI (v_what c K B j' (f t) i') = e)) m = cntN (v_tho c n K P B (v_chs np T C B) p' j' v i' e) (v_ways c K B j') := by
      rw [enumS.cnt (pl := fun w => v_pl K P (v_chs np T C B) 3 (v_what c K B j' w) j') (fun w => v_al c K P B p' j' v w && decide (nI (v_what c K B j' w i') = e)) en]
      refine cntN_cong _ (fun w _ => ?_)
      show ((v_al c K P B p' j' v w && decide (nI (v_what c K B j' w i') = e)) && v_pl K P (v_chs np T C B) 3 (v_what c K B j' w) j') = ((v_al c K P B p' j' v w && v_pl K P (v_chs np T C B) 3 (v_what c K B j' w) j') && decide (nI (v_what c K B j' w i') = e))
      cases v_al c K P B p' j' v w <;> cases decide (nI (v_what c K B j' w i') = e) <;> cases v_pl K P (v_chs np T C B) 3 (v_what c K B j' w) j' <;> rfl
    have cl := cntN_le (v_all c n K P B (v_chs np T C B) p' j' v) (v_ways c K B j')
    have tl := cntN_le (v_tho c n K P B (v_chs np T C B) p' j' v i' e) (v_ways c K B j')
    have wl := v_ways_le s.ok hj
    rw [ca] at r2
    rw [ct] at r3
    generalize cntN (v_all c n K P B (v_chs np T C B) p' j' v) (v_ways c K B j') = N at *
    generalize cntN (v_tho c n K P B (v_chs np T C B) p' j' v i' e) (v_ways c K B j') = N' at *
    have pre : ∀ R, XX true 6 24 59 [.ref 64, .int (nI p'), .int (nI j'), .int (v), .int (nI i'), .int (e), .int (part), ax_junk] [.int (nI N)] (h2) (R) → XX true 6 24 0 [.ref 64, .int (nI p'), .int (nI j'), .int (v), .int (nI i'), .int (e), .int (part), ax_junk] [] (h) (R) := by
      intro R u
      refine wb_X11_odds_0 ?_
      refine cl_X11_odds_1 rfl (by decide) (cp_isPlayer _ _) ?_
      refine wb_X11_odds_4 ?_
      rw [b2i_t q0, if_neg (by decide)]
      refine cl_X11_odds_11 rfl (by decide) (ah) ?_
      refine wb_X11_odds_14 ?_
      rw [if_neg (by decide)]
      refine cl_X11_odds_19 rfl (by decide) (cp_isPart _ _) ?_
      refine wb_X11_odds_22 ?_
      rw [b2i_t q3, if_neg (by decide)]
      refine cl_X11_odds_39 rfl (by decide) (r1) ?_
      refine wb_X11_odds_42 ?_
      refine cl_X11_odds_56 rfl (by decide) (r2) ?_
      exact u
    unfold v_oddsA
    by_cases n0 : N = 0
    · refine ⟨h2, A', pre _ ?_, f1.trans (f2.mono rfl), fo2.1⟩
      refine wb_X11_odds_59 ?_
      rw [n0, if_pos (by decide), if_pos rfl, no_1]
    · have g1 : 0 < Nat.gcd N' N := Nat.gcd_pos_of_pos_right _ (by omega)
      have g2 : Nat.gcd N' N ≤ N := Nat.gcd_le_right _ (by omega)
      have sh := cp_share (A := N') (D := N) (by omega) (by omega) (by omega) (by omega) part h3
      refine ⟨h3, A', pre _ ?_, (f1.trans (f2.mono rfl)).trans (f3.mono rfl), fo3.1⟩
      refine wb_X11_odds_59 ?_
      rw [if_neg (nI_z (by omega) (by omega))]
      refine cl_X11_odds_88 rfl (by decide) (r3) ?_
      refine wb_X11_odds_91 ?_
      rw [nI_l (by omega), nI_l (by omega), lN_lI N']
      refine cl_X11_odds_97 rfl (by decide) (sh) ?_
      refine wb_X11_odds_100 ?_
      rw [if_neg n0]
      unfold v_frac
      rw [Int.natAbs_natCast]
      by_cases pz : part = nI 0
      · rw [if_pos pz, if_pos pz, ← lN_lI, pk_lDiv (by omega) g1 (by omega)]
      · rw [if_neg pz, if_neg pz, pk_lDiv (by omega) g1 (by omega)]
  · rw [if_neg q]
    refine ⟨h, A, ?_, fr.rfl', pl⟩
    refine wb_X11_odds_0 ?_
    refine cl_X11_odds_1 rfl (by decide) (cp_isPlayer _ _) ?_
    refine wb_X11_odds_4 ?_
    by_cases q0 : isPl p
    · rw [b2i_t q0, if_neg (by decide)]
      refine cl_X11_odds_11 rfl (by decide) (cp_isAhead s i j) ?_
      refine wb_X11_odds_14 ?_
      by_cases q1 : isLe n j ∧ isLt (ix j) i
      · rw [b2i_t q1, if_neg (by decide)]
        refine cl_X11_odds_19 rfl (by decide) (cp_isPart _ _) ?_
        refine wb_X11_odds_22 ?_
        rw [b2i_f (fun z => q ⟨q0, q1.1, q1.2, z⟩), if_pos rfl, no_2]
      · rw [b2i_f q1, if_pos rfl, no_2]
    · rw [b2i_f q0, if_pos rfl, no_2]
theorem sp_together (s : tS 0 c n K P B S h) (t : cP 0 np T C h) (w : cW 0 W h) (r : cR 0 nr U V TA AA h) {A : Nat} (pl : cPl A h) {p : Nat} (hp : p < 3) : ∃ h' A', XX true 6 58 0 [.ref 129, .ref 65, .int (nI p), ax_junk, ax_junk] [] (h) (some (.int (iI (sumZ (v_sumf c n K P B (v_chs np T C B) U V W nr 3 p) (v_ways c K B n)))), h') ∧ fr cfF h h' ∧ cPl A' h' := by
  have h6 := s.n6
  obtain ⟨h1, A', m, f, r1, f1, fo, en⟩ := sp_follow s t (but := 3) (b := -nI 1) (Nat.le_refl n) (fun x hx => ⟨fun z => absurd z (nI_ne1 (by omega)), fun z => absurd z (by omega)⟩) pl
  have ml := fl_len s.ok (Nat.le_refl n) en
  have al := s.al
  have lp : ∀ k t, t + k = m → ∀ h2, fr [(86, none)] h1 h2 → ∃ h', XX true 6 58 18 [.ref 129, .ref 65, .int (nI p), .int (iI (sumZ (fun t => v_pay U V W c n (v_what c K B n (f t)) p nr) t)), .int (nI t)] [] (h2) ((some (.int (iI (sumZ (fun t => v_pay U V W c n (v_what c K B n (f t)) p nr) m))), h')) ∧ fr [(86, none)] h1 h' := by
    intro k
    induction k with
    | zero =>
      intro t ht h2 f2
      obtain rfl : t = m := ht
      refine ⟨h2, ?_, f2⟩
      refine wb_X4_together_18 ?_
      rw [(cFo_fr fo f2 rfl).2.1, if_neg (nI_nlt (Nat.le_refl _) (by omega))]
    | succ k ih =>
      intro t ht h2 f2
      have c2 := cFo_fr fo f2 rfl
      have f12 := f1.trans (f2.mono rfl)
      have s2 : tS 0 c n K P B S h2 := s.fr f12 rfl rfl
      have rA := plR A' c2.1.1 h2
      have fq := en.2.1 t (by omega)
      obtain ⟨h3, r3, f3, x3⟩ := sp_t_go s2 (Nat.le_refl n) (w := f t) fq.1
      have f13 := f12.trans (f3.mono rfl)
      have s3 : tS 0 c n K P B S h3 := s.fr f13 rfl rfl
      have w3 := cW_fx w f13.fx al (by decide) (fun _ => rfl)
      have r3' := cR_fx r f13.fx al (by decide) rfl rfl rfl
      have wo := sp_won s3 w3 r3' x3 (fun i hi => v_what_lt s.ok (Nat.le_refl _) (f t) hi) hp
      obtain ⟨h', x, y⟩ := ih (t + 1) (by omega) h3 (f2.trans f3)
      refine ⟨h', ?_, y⟩
      refine wb_X4_together_18 ?_
      rw [c2.2.1, if_pos (nI_lt (by omega) (by omega))]
      refine ⟨A', c2.1.2.1, 1620, rA.1, in_nI (by omega) (by decide), ?_⟩
      rw [rA.2.1, ix_nI (by omega), c2.2.2 t (by omega), s2.nn]
      refine cl_X4_together_45 rfl (by decide) (r3) ?_
      refine wb_X4_together_48 ?_
      refine cl_X4_together_51 rfl (by decide) (wo) ?_
      refine wb_X4_together_54 ?_
      rw [iI_add, nI_s]
      exact x
  obtain ⟨h', x, y⟩ := lp m 0 (by omega) h1 fr.rfl'
  have es := enumS.sum (pl := fun w => v_pl K P (v_chs np T C B) 3 (v_what c K B n w) n) (fun w => v_pay U V W c n (v_what c K B n w) p nr) en
  rw [es] at x
  refine ⟨h', A', ?_, f1.trans (y.mono rfl), (cFo_fr fo y rfl).1⟩
  refine wb_X4_together_0 ?_
  rw [s.nn]
  refine cl_X4_together_10 rfl (by decide) (r1) ?_
  refine wb_X4_together_13 ?_
  rw [nI_iI 0]
  exact x
def cK (o sk : Nat) (h : AH) : Prop := hL h (65 + o) 7 = lN sk ∧ 1 ≤ sk ∧ sk < 2 ^ 63
theorem co_pay (s : tS 0 c n K P B S h) (r : cR 0 nr U V TA AA h) (w : cW 0 W h) {sk : Nat} (k : cK 0 sk h) (p i : Int32) : ∃ h', XX true 5 47 0 [.ref 64, .int (p), .int (i), ax_junk, ax_junk] [] (h) (some (.long (a_pay c n K B nr U V W sk p i)), h') ∧ fr [(86, none)] h h' := by
  have h6 := s.n6
  have h8 := r.2.1.1.1
  have wl := v_ways_le s.ok (Nat.le_refl n)
  have al := s.al
  unfold a_pay
  by_cases q : isPl p ∧ isLt (v_ways c K B n) i
  · obtain ⟨q0, q1⟩ := id q
    obtain ⟨a, ha, rfl⟩ := q0.ex
    obtain ⟨b, hb, rfl⟩ := q1.ex (by omega)
    rw [if_pos q, ix_nI (by omega), ix_nI (by omega)]
    obtain ⟨h1, r1, f, x⟩ := sp_t_go s (Nat.le_refl _) hb
    have s1 : tS 0 c n K P B S h1 := s.fr f rfl rfl
    have he : ∀ i, i < n → v_what c K B n b i < 5 := fun i hi => v_what_lt s.ok (Nat.le_refl _) b hi
    have wo := sp_won s1 (cW_fx w f.fx al (by decide) (fun _ => rfl)) (cR_fx r f.fx al (by decide) rfl rfl rfl) x he ha
    have pb := v_pay_le (n := n) (c := c) (e := v_what c K B n b) r.2.1.1 (fun i hi => (w i hi).2) he s.c5.2 a nr (Nat.le_refl _)
    have kk : hL h1 65 7 = lN sk := (f.L rfl).trans k.1
    refine ⟨h1, ?_, f⟩
    refine wb_X11_pay_0 ?_
    refine cl_X11_pay_1 rfl (by decide) (cp_isPlayer _ _) ?_
    refine wb_X11_pay_4 ?_
    rw [b2i_t q0, if_neg (by decide)]
    refine cl_X11_pay_9 rfl (by decide) (cp_isWay s _) ?_
    refine wb_X11_pay_12 ?_
    rw [b2i_t q1, if_neg (by decide), s.nn]
    refine cl_X11_pay_37 rfl (by decide) (r1) ?_
    refine wb_X11_pay_40 ?_
    refine cl_X11_pay_45 rfl (by decide) (wo) ?_
    refine wb_X11_pay_48 ?_
    rw [iI_l (by omega) (by omega), kk]
    refine cl_X11_pay_58 rfl (by decide) (cp_isProduct _ k.2.1 k.2.2 _) ?_
    refine wb_X11_pay_61 ?_
    by_cases z : v_fit (lI (v_pay U V W c n (v_what c K B n b) a nr)) sk
    · rw [b2i_t z, if_neg (by decide), if_pos z, kk]
    · rw [b2i_f z, if_pos rfl, if_neg z, no_5]
  · rw [if_neg q]
    refine ⟨h, ?_, fr.rfl'⟩
    refine wb_X11_pay_0 ?_
    refine cl_X11_pay_1 rfl (by decide) (cp_isPlayer _ _) ?_
    refine wb_X11_pay_4 ?_
    by_cases q0 : isPl p
    · rw [b2i_t q0, if_neg (by decide)]
      refine cl_X11_pay_9 rfl (by decide) (cp_isWay s _) ?_
      refine wb_X11_pay_12 ?_
      rw [b2i_f (fun z => q ⟨q0, z⟩), if_pos rfl, no_2]
    · rw [b2i_f q0, if_pos rfl, no_2]
end S68
