/-! THE LAW: worlds part all ways; sets stand in order -/
section S95
variable {c n np nr : Nat} {K P B T C : Nat → Nat} {U : Nat → Nat → Nat} {V W : Nat → Int} {h h1 h2 h' : AH}
theorem first_ex (F : Nat → Nat) (w : Nat) : ∃ w0, w0 ≤ w ∧ F w0 = F w ∧ ∀ i, i < w0 → F i ≠ F w := by
  have : ∀ m, m ≤ w → (∀ i, i < m → F i ≠ F w) ∨ ∃ w0, w0 ≤ w ∧ F w0 = F w ∧ ∀ i, i < w0 → F i ≠ F w := by
    intro m
    induction m with
    | zero => intro _; exact Or.inl (fun i hi => absurd hi (Nat.not_lt_zero _))
    | succ m ih =>
      intro hm
      rcases ih (by omega) with y | y
      · by_cases z : F m = F w
        · exact Or.inr ⟨m, by omega, z, y⟩
        · refine Or.inl (fun i hi => ?_)
          by_cases e : i = m
          · rw [e]; exact z
          · exact y i (by omega)
      · exact Or.inr y
  rcases this w (Nat.le_refl _) with y | y
  · exact ⟨w, Nat.le_refl _, rfl, y⟩
  · exact y
/-- how many ways stand in worlds whose first is below -/
abbrev mny (c : Nat) (K P B : Nat → Nat) (q j i : Nat) : Nat := sumN (fun w => if decide (v_nth (fun u => decide (v_vw c K P B q j u = v_vw c K P B q j w)) (v_ways c K B j) 0 = w) = true then cntN (fun u => decide (v_vw c K P B q j u = v_vw c K P B q j w)) (v_ways c K B j) else 0) i
theorem lw_world (s : lG c n K P B np T C nr U V W h1) {q j w w0 : Nat} (hq : q < 3) (hj : j ≤ n) (hw : w0 < v_ways c K B j) (e : v_nth (fun u => decide (v_vw c K P B q j u = v_vw c K P B q j w)) (v_ways c K B j) 0 = w0) : ∃ h2, XX true 4 22 0 [.ref 64, .int (nI q), .int (nI j), .int (nI (v_vw c K P B q j w)), .int (nI 0), ax_junk] [] (h1) (some (.int (nI w0)), h2) ∧ fy 0 Xc h1 h2 ∧ lG c n K P B np T C nr U V W h2 := by
  have n6 := s.ok.2.2.1
  obtain ⟨h2, x2, f2⟩ := lg_world s (nI q) (nI j) (nI (v_vw c K P B q j w)) (nI 0)
  unfold a_world at x2
  rw [if_pos ⟨⟨nI_le (Nat.zero_le _) (by omega), nI_le (by omega) (by decide)⟩, (isLe_nI (by omega) (by omega)).mpr hj⟩, if_neg (by decide), ix_nI (by omega), ix_nI (by omega), show ix (nI 0) = 0 from rfl] at x2
  have fe : (fun u => decide (nI (v_vw c K P B q j u) = nI (v_vw c K P B q j w))) = fun u => decide (v_vw c K P B q j u = v_vw c K P B q j w) := funext fun u => by
    have l1 := (v_vw_lt s.ok hj q u).2
    have l2 := (v_vw_lt s.ok hj q w).2
    exact decide_eq_decide.mpr (nI_eq (by omega) (by omega))
  rw [fe, e, if_neg (by omega)] at x2
  exact ⟨h2, x2, f2⟩
theorem lw_part {r q j : Nat} {h0 : AH} (a0 : 168 ≤ h0.2.2.1) (hq : q < 3) (hj : j ≤ n) : ∀ m i k h1, i + m = v_ways c K B j → lS c n K P B np T C nr U V W k h h1 → yWs c K B h0 h1 r j → ∃ h2, lS c n K P B np T C nr U V W (k + 7 * m) h h2 ∧ ∀ R, XX true 18 112 465 [.ref 48, .ref 64, .ref 153, .int (nI (v_ways c K B n)), .int (nI q), ax_junk, ax_junk, ax_junk, ax_junk, ax_junk, ax_junk, ax_junk, ax_junk, ax_junk, ax_junk] [.int (nI j), .ref 64, .int (nI (mny c K P B q j (v_ways c K B j)))] (h2) (R) → XX true 18 112 380 [.ref 48, .ref 64, .ref 153, .int (nI (v_ways c K B n)), .int (nI q), .int (nI j), .int (nI (mny c K P B q j i)), rf (r), rf (r), .int (nI (v_ways c K B j)), .int (nI i), ax_junk, ax_junk, ax_junk, ax_junk] [] (h1) (R) := by
  intro m
  induction m with
  | zero =>
    intro i k h1 hi s y
    obtain rfl : i = v_ways c K B j := hi
    have wj := v_ways_le s.2.1.ok hj
    refine ⟨h1, s, fun R x => ?_⟩
    refine wb_L_law_380 ?_
    rw [if_neg (nI_nlt (Nat.le_refl _) (by omega))]
    exact wkj x
  | succ m ih =>
    intro i k h1 hi s y
    have ok := s.2.1.ok
    have n6 := s.2.1.n6
    have wj := v_ways_le ok hj
    obtain ⟨a, y1, y2, y3⟩ := y.2.2 i (by omega)
    -- its view
    obtain ⟨h2, x2, f2⟩ := so_view s.2.1 (a := a) hq hj y3.1 (by omega) (by decide) y3.2
    have s2 := s.o f2
    have yy2 := y.y f2 (fun a z => z.elim)
    have vl := v_vw_lt ok hj q i
    obtain ⟨w0, b1, b2, b3⟩ := first_ex (v_vw c K P B q j) i
    have nt : v_nth (fun u => decide (v_vw c K P B q j u = v_vw c K P B q j i)) (v_ways c K B j) 0 = w0 := (nth_0 (by omega)).mpr ⟨decide_eq_true b2, fun u hu => decide_eq_false (b3 u hu)⟩
    obtain ⟨h3, x3, f3⟩ := lw_world s2.2.2 hq hj (by omega) nt
    have s3 := s2.cl f3
    have yy3 := yy2.y f3.1 (fun a z hz => by omega)
    obtain ⟨a', y4, y5, y6⟩ := yy3.2.2 w0 (by omega)
    obtain ⟨a2, z4, z5, z6⟩ := yy3.2.2 i (by omega)
    have a2a : a2 = a := rf_inj (z4.symm.trans ((f3.1.R yy2.1.2.1 (by have := yy2.2.1; omega)).trans ((f2.R y.1.2.1 (fun z => z)).trans y1)))
    rw [a2a] at z6
    have sm := so_same y6.1 z6.1 (j := j) (by omega) (by omega) (by decide) (by decide)
    have same : (∀ i', i' < j → hI h3 a' i' = hI h3 a i') ↔ w0 = i := by
      constructor
      · intro z
        refine what_inj ok j hj w0 i (by omega) (by omega) (fun e he => ?_)
        have u := z e he
        rw [y6.2 e he, z6.2 e he] at u
        have l1 := v_what_lt ok hj w0 he
        have l2 := v_what_lt ok hj i he
        exact (nI_eq (by omega) (by omega)).mp u
      · intro z e he
        rw [y6.2 e he, z6.2 e he, z]
    rw [b2i_cong same] at sm
    have ms : mny c K P B q j (i + 1) = mny c K P B q j i + (if decide (v_nth (fun u => decide (v_vw c K P B q j u = v_vw c K P B q j i)) (v_ways c K B j) 0 = i) = true then cntN (fun u => decide (v_vw c K P B q j u = v_vw c K P B q j i)) (v_ways c K B j) else 0) := rfl
    rw [nt] at ms
    have pre : ∀ R, XX true 18 112 436 [.ref 48, .ref 64, .ref 153, .int (nI (v_ways c K B n)), .int (nI q), .int (nI j), .int (nI (mny c K P B q j i)), rf (r), rf (r), .int (nI (v_ways c K B j)), .int (nI i), ax_junk, .int (nI (v_vw c K P B q j i)), ax_junk, ax_junk] [.int (b2i (w0 = i))] (h3) (R) → XX true 18 112 380 [.ref 48, .ref 64, .ref 153, .int (nI (v_ways c K B n)), .int (nI q), .int (nI j), .int (nI (mny c K P B q j i)), rf (r), rf (r), .int (nI (v_ways c K B j)), .int (nI i), ax_junk, ax_junk, ax_junk, ax_junk] [] (h1) (R) := by
      intro R x
      refine wb_L_law_380 ?_
      rw [if_pos (nI_lt (by omega) (by omega)), ix_nI (by omega), y.1.g, y1]
      refine ⟨_, y.1.d, in_nI (by omega) (by omega), a, rfl, ?_⟩
      refine cl_L_law_401 rfl (by decide) (x2) ?_
      refine wb_L_law_404 ?_
      refine cl_L_law_414 rfl (by decide) (x3) ?_
      refine wb_L_law_417 ?_
      rw [if_neg (nI_n0 (by omega)), ix_nI (by omega), yy3.1.g, y4]
      refine ⟨_, yy3.1.d, in_nI (by omega) (by omega), a', rfl, ?_⟩
      refine cl_L_law_433 rfl (by decide) (sm) ?_
      exact wkj x
    by_cases z : w0 = i
    · rw [if_pos (decide_eq_true z)] at ms
      obtain ⟨h4, x4, f4⟩ := lw_worlds s3.2.2 hq hj vl.2
      have s4 := s3.cl f4
      have yy4 := yy3.y f4.1 (fun a z hz => by omega)
      obtain ⟨h5, s5, x5⟩ := ih (i + 1) (k + 7) h4 (by omega) s4 yy4
      refine ⟨h5, s5.mono (by omega), fun R x => pre R ?_⟩
      have x6 := x5 R x
      rw [ms] at x6
      rw [b2i_t z]
      refine wb_L_law_436 ?_
      rw [if_neg (by decide)]
      refine cl_L_law_448 rfl (by decide) (x4) ?_
      refine wb_L_law_451 ?_
      rw [nI_add]
      refine wb_L_law_454 ?_
      rw [nI_s]
      exact x6
    · rw [if_neg (by simpa using z)] at ms
      obtain ⟨h5, s5, x5⟩ := ih (i + 1) (k + 7) h3 (by omega) s3 yy3
      refine ⟨h5, s5.mono (by omega), fun R x => pre R ?_⟩
      have x6 := x5 R x
      rw [ms] at x6
      rw [b2i_f z]
      refine wb_L_law_436 ?_
      rw [if_pos rfl]
      refine wb_L_law_454 ?_
      rw [nI_s]
      exact x6
theorem lw_setOf (s : lG c n K P B np T C nr U V W h1) {q t : Nat} (hq : q < 3) (ht : t < v_sM c n K P B q) : (∃ h2, XX true 5 44 0 [.ref 64, .int (nI q), .int (nI t), .int (nI 0)] [] (h1) (some (.int (nI (v_sJ c n K P B q t))), h2) ∧ fy 0 Xc h1 h2 ∧ lG c n K P B np T C nr U V W h2) ∧ ∃ h2, XX true 5 44 0 [.ref 64, .int (nI q), .int (nI t), .int (nI 1)] [] (h1) (some (.int (nI (v_sV c n K P B q t))), h2) ∧ fy 0 Xc h1 h2 ∧ lG c n K P B np T C nr U V W h2 := by
  have m8 := v_sM_le s.ok q
  obtain ⟨h2, x2, f2⟩ := lg_setOf s (nI q) (nI t) (nI 0)
  obtain ⟨h3, x3, f3⟩ := lg_setOf s (nI q) (nI t) (nI 1)
  have pl : isPl (nI q) := ⟨nI_le (Nat.zero_le _) (by omega), nI_le (by omega) (by decide)⟩
  unfold a_setOf at x2 x3
  rw [if_pos ⟨pl, by decide⟩, ix_nI (by omega), ix_nI (by omega), if_pos ((isLt_nI (by omega) (by omega)).mpr ht), if_pos rfl] at x2
  rw [if_pos ⟨pl, by decide⟩, ix_nI (by omega), ix_nI (by omega), if_pos ((isLt_nI (by omega) (by omega)).mpr ht), if_neg (by decide), if_pos rfl] at x3
  exact ⟨⟨h2, x2, f2⟩, ⟨h3, x3, f3⟩⟩
theorem lw_order {k q : Nat} (hq : q < 3) : ∀ m t h1, v_sM c n K P B q ≤ t + m → 1 ≤ t → t < 4000 → lS c n K P B np T C nr U V W k h h1 → ∃ h2, lS c n K P B np T C nr U V W k h h2 ∧ ∀ R, XX true 18 112 333 [.ref 48, .ref 64, .ref 153, .int (nI (v_ways c K B n)), .int (nI (q + 1)), ax_junk, ax_junk, ax_junk, ax_junk, ax_junk, ax_junk, ax_junk, ax_junk, ax_junk, ax_junk] [] (h2) (R) → XX true 18 112 484 [.ref 48, .ref 64, .ref 153, .int (nI (v_ways c K B n)), .int (nI q), ax_junk, ax_junk, ax_junk, .int (nI (v_sM c n K P B q)), .int (nI t), ax_junk, ax_junk, ax_junk, ax_junk, ax_junk] [] (h1) (R) := by
  intro m
  induction m with
  | zero =>
    intro t h1 ht h1t h4 s
    have m8 := v_sM_le s.2.1.ok q
    refine ⟨h1, s, fun R x => ?_⟩
    refine wb_L_law_484 ?_
    rw [if_neg (nI_nlt (by omega) (by omega)), nI_s]
    exact x
  | succ m ih =>
    intro t h1 ht h1t h4 s
    have n6 := s.2.1.n6
    have m8 := v_sM_le s.2.1.ok q
    by_cases z : t < v_sM c n K P B q
    · obtain ⟨h2, x2, f2⟩ := (lw_setOf s.2.2 hq (t := t - 1) (by omega)).1
      have s2 := s.cl f2
      obtain ⟨h3, x3, f3⟩ := (lw_setOf s2.2.2 hq z).1
      have s3 := s2.cl f3
      obtain ⟨h4', x4, f4⟩ := (lw_setOf s3.2.2 hq (t := t - 1) (by omega)).1
      have s4 := s3.cl f4
      obtain ⟨h5, x5, f5⟩ := (lw_setOf s4.2.2 hq z).1
      have s5 := s4.cl f5
      obtain ⟨h6, x6, f6⟩ := (lw_setOf s5.2.2 hq (t := t - 1) (by omega)).2
      have s6 := s5.cl f6
      obtain ⟨h7, x7, f7⟩ := (lw_setOf s6.2.2 hq z).2
      have s7 := s6.cl f7
      have or := sets_order s.2.1.ok (p := q) (t := t - 1) (by omega)
      rw [show t - 1 + 1 = t by omega] at or
      have j1 := (v_set_is s.2.1.ok (p := q) (t := t - 1) (by omega)).1
      have j2 := (v_set_is s.2.1.ok (p := q) z).1
      have v1 := v_sV_lt c n K P B q (t - 1)
      have v2 := v_sV_lt c n K P B q t
      have md : v_sM c n K P B q / 9 ≤ v_sM c n K P B q := Nat.div_le_self _ _
      have nx : ∀ {hh}, lS c n K P B np T C nr U V W k h hh → ∃ h2, lS c n K P B np T C nr U V W k h h2 ∧ ∀ R, XX true 18 112 333 [.ref 48, .ref 64, .ref 153, .int (nI (v_ways c K B n)), .int (nI (q + 1)), ax_junk, ax_junk, ax_junk, ax_junk, ax_junk, ax_junk, ax_junk, ax_junk, ax_junk, ax_junk] [] (h2) (R) → XX true 18 112 562 [.ref 48, .ref 64, .ref 153, .int (nI (v_ways c K B n)), .int (nI q), ax_junk, ax_junk, ax_junk, .int (nI (v_sM c n K P B q)), .int (nI t), ax_junk, ax_junk, ax_junk, ax_junk, ax_junk] [] (hh) (R) := by
        intro hh sh
        obtain ⟨h8, s8, x8⟩ := ih (t + (1 + v_sM c n K P B q / 9)) hh (by omega) (by omega) (by omega) sh
        refine ⟨h8, s8, fun R x => ?_⟩
        refine wb_L_law_562 ?_
        rw [nI_divI (by omega) (by decide), nI_add, nI_add]
        exact ⟨by decide, x8 R x⟩
      by_cases e : v_sJ c n K P B q (t - 1) = v_sJ c n K P B q t
      · obtain ⟨h8, s8, x8⟩ := nx s7
        refine ⟨h8, s8, fun R x => ?_⟩
        refine wb_L_law_484 ?_
        rw [if_pos (nI_lt z (by omega)), show nI t - nI 1 = nI (t - 1) from nI_subI (by omega)]
        refine cl_L_law_499 rfl (by decide) (x2) ?_
        refine wb_L_law_502 ?_
        refine cl_L_law_508 rfl (by decide) (x3) ?_
        refine wb_L_law_511 ?_
        rw [if_pos (nI_le or.1 (by omega)), show nI t - nI 1 = nI (t - 1) from nI_subI (by omega)]
        refine cl_L_law_522 rfl (by decide) (x4) ?_
        refine wb_L_law_525 ?_
        refine cl_L_law_531 rfl (by decide) (x5) ?_
        refine wb_L_law_534 ?_
        rw [if_pos (by rw [e]), show nI t - nI 1 = nI (t - 1) from nI_subI (by omega)]
        refine cl_L_law_545 rfl (by decide) (x6) ?_
        refine wb_L_law_548 ?_
        refine cl_L_law_554 rfl (by decide) (x7) ?_
        refine wb_L_law_557 ?_
        rw [if_pos (nI_lt (or.2 e) (by omega))]
        exact x8 R x
      · obtain ⟨h8, s8, x8⟩ := nx s5
        refine ⟨h8, s8, fun R x => ?_⟩
        refine wb_L_law_484 ?_
        rw [if_pos (nI_lt z (by omega)), show nI t - nI 1 = nI (t - 1) from nI_subI (by omega)]
        refine cl_L_law_499 rfl (by decide) (x2) ?_
        refine wb_L_law_502 ?_
        refine cl_L_law_508 rfl (by decide) (x3) ?_
        refine wb_L_law_511 ?_
        rw [if_pos (nI_le or.1 (by omega)), show nI t - nI 1 = nI (t - 1) from nI_subI (by omega)]
        refine cl_L_law_522 rfl (by decide) (x4) ?_
        refine wb_L_law_525 ?_
        refine cl_L_law_531 rfl (by decide) (x5) ?_
        refine wb_L_law_534 ?_
        rw [if_neg (fun y => e ((nI_eq (by omega) (by omega)).mp y))]
        exact x8 R x
    · refine ⟨h1, s, fun R x => ?_⟩
      refine wb_L_law_484 ?_
      rw [if_neg (nI_nlt (by omega) (by omega)), nI_s]
      exact x
theorem lw_player {k q : Nat} (hL : h.2.2.2.2 < 2 ^ 31) (s : lS c n K P B np T C nr U V W k h h1) (hq : q < 3) : ∃ h2, lS c n K P B np T C nr U V W (k + 25929) h h2 ∧ ∀ R, XX true 18 112 333 [.ref 48, .ref 64, .ref 153, .int (nI (v_ways c K B n)), .int (nI (q + 1)), ax_junk, ax_junk, ax_junk, ax_junk, ax_junk, ax_junk, ax_junk, ax_junk, ax_junk, ax_junk] [] (h2) (R) → XX true 18 112 333 [.ref 48, .ref 64, .ref 153, .int (nI (v_ways c K B n)), .int (nI q), ax_junk, ax_junk, ax_junk, ax_junk, ax_junk, ax_junk, ax_junk, ax_junk, ax_junk, ax_junk] [] (h1) (R) := by
  have ok := s.2.1.ok
  have n6 := s.2.1.n6
  obtain ⟨v, hv, xv⟩ := ll_cell (h := h1) (s.l hL) (k := 40 + q) (by omega)
  have hj := Nat.mod_lt v (show 0 < n + 1 by omega)
  have x348 : ∀ R, XX true 18 112 363 [.ref 48, .ref 64, .ref 153, .int (nI (v_ways c K B n)), .int (nI q), .int (nI (v % (n + 1))), .int (nI 0), ax_junk, ax_junk, ax_junk, ax_junk, ax_junk, ax_junk, ax_junk, ax_junk] [.int (nI (v % (n + 1))), .ref 153] (h1) (R) → XX true 18 112 333 [.ref 48, .ref 64, .ref 153, .int (nI (v_ways c K B n)), .int (nI q), ax_junk, ax_junk, ax_junk, ax_junk, ax_junk, ax_junk, ax_junk, ax_junk, ax_junk, ax_junk] [] (h1) (R) := by
    intro R x
    refine wb_L_law_333 ?_
    rw [if_pos (nI_lt hq (by decide)), nI_add]
    refine cl_L_law_345 rfl (by decide) (xv) ?_
    refine wb_L_law_348 ?_
    rw [s.2.1.nn, nI_s, nI_rem hv (by omega)]
    exact ⟨nI_nz (by omega) (by omega), x⟩
  generalize v % (n + 1) = j at *
  have jn : j ≤ n := by omega
  have wj := v_ways_le ok jn
  obtain ⟨h2, r, x2, f2, y2⟩ := so_ways s.2.1 jn
  have s2 := s.o f2
  obtain ⟨h3, s3, x3⟩ := lw_part (q := q) s.2.1.al hq jn (v_ways c K B j) 0 _ h2 (Nat.zero_add _) s2 y2
  have y1 := lg_ways s3.2.2 (nI j)
  unfold a_ways at y1
  rw [if_pos ((isLe_nI (by omega) (by omega)).mpr jn), ix_nI (by omega)] at y1
  obtain ⟨h4, x4, f4⟩ := lg_sets s3.2.2 (nI q)
  unfold a_sets at x4
  rw [if_pos ⟨nI_le (Nat.zero_le _) (by omega), nI_le (by omega) (by decide)⟩, ix_nI (by omega)] at x4
  have s4 := s3.cl f4
  have m8 := v_sM_le ok q
  obtain ⟨h5, s5, x5⟩ := lw_order hq (v_sM c n K P B q) 1 h4 (by omega) (Nat.le_refl _) (by decide) s4
  refine ⟨h5, s5.mono (by omega), fun R x => x348 R ?_⟩
  refine cl_L_law_363 rfl (by decide) (x2) ?_
  refine wb_L_law_366 ?_
  refine ⟨_, y2.1.d, x3 R ?_⟩
  refine cl_L_law_465 rfl (by decide) (y1) ?_
  refine wb_L_law_468 ?_
  rw [if_pos (by rw [show mny c K P B q j (v_ways c K B j) = v_ways c K B j from parts_all (v_vw c K P B q j) (v_ways c K B j)])]
  refine cl_L_law_476 rfl (by decide) (x4) ?_
  refine wb_L_law_479 ?_
  exact x5 R x
theorem lw_players {k : Nat} (hL : h.2.2.2.2 < 2 ^ 31) (s : lS c n K P B np T C nr U V W k h h1) : ∃ h2, lS c n K P B np T C nr U V W (k + 77787) h h2 ∧ ∀ R, XX true 18 112 333 [.ref 48, .ref 64, .ref 153, .int (nI (v_ways c K B n)), .int (nI 3), ax_junk, ax_junk, ax_junk, ax_junk, ax_junk, ax_junk, ax_junk, ax_junk, ax_junk, ax_junk] [] (h2) (R) → XX true 18 112 333 [.ref 48, .ref 64, .ref 153, .int (nI (v_ways c K B n)), .int (nI 0), ax_junk, ax_junk, ax_junk, ax_junk, ax_junk, ax_junk, ax_junk, ax_junk, ax_junk, ax_junk] [] (h1) (R) := by
  obtain ⟨h2, s2, x2⟩ := lw_player hL s (q := 0) (by decide)
  obtain ⟨h3, s3, x3⟩ := lw_player hL s2 (q := 1) (by decide)
  obtain ⟨h4, s4, x4⟩ := lw_player hL s3 (q := 2) (by decide)
  exact ⟨h4, s4.mono (by omega), fun R x => x2 R (x3 R (x4 R x))⟩
end S95
