/-! THE LAW: odds are together 1 -/
section S96
variable {c n np nr : Nat} {K P B T C : Nat → Nat} {U : Nat → Nat → Nat} {V W : Nat → Int} {h h1 h2 h' : AH}
/-- the ways that look so and go by plans; those of them where e happened -/
abbrev o_all (c n : Nat) (K P B : Nat → Nat) (ch : Nat → Nat → Nat → Nat) (q v w : Nat) : Bool := v_all c n K P B ch q n (nI v) w
abbrev o_A (c n : Nat) (K P B : Nat → Nat) (ch : Nat → Nat → Nat → Nat) (q v : Nat) : Nat := cntN (o_all c n K P B ch q v) (v_ways c K B n)
abbrev o_t (c n : Nat) (K P B : Nat → Nat) (ch : Nat → Nat → Nat → Nat) (q v i e : Nat) : Nat := cntN (fun w => o_all c n K P B ch q v w && decide (v_what c K B n w i = e)) (v_ways c K B n)
theorem lw_odd (s : lG c n K P B np T C nr U V W h1) {q v i e : Nat} (hq : q < 3) (hi : i < n) (he : e < 5) {part : Int32} (hp : isPt part) : ∃ h2, XX true 6 24 0 [.ref 64, .int (nI q), .int (nI n), .int (nI v), .int (nI i), .int (nI e), .int (part), ax_junk] [] (h1) (some (.long (v_oddsA (o_A c n K P B (v_chs np T C B) q v) (o_t c n K P B (v_chs np T C B) q v i e) part)), h2) ∧ fy 0 Xc h1 h2 ∧ lG c n K P B np T C nr U V W h2 := by
  have n6 := s.ok.2.2.1
  obtain ⟨h2, x2, f2⟩ := lg_odds s (nI q) (nI n) (nI v) (nI i) (nI e) part
  unfold a_odds at x2
  rw [if_pos ⟨⟨nI_le (Nat.zero_le _) (by omega), nI_le (by omega) (by decide)⟩, (isLe_nI (by omega) (by omega)).mpr (Nat.le_refl _), by rw [ix_nI (by omega)]; exact (isLt_nI (by omega) (by omega)).mpr hi, hp⟩, ix_nI (by omega), ix_nI (by omega), ix_nI (by omega)] at x2
  rw [cntN_cg (f := v_tho c n K P B (v_chs np T C B) q n (nI v) i (nI e)) (g := fun w => o_all c n K P B (v_chs np T C B) q v w && decide (v_what c K B n w i = e)) _ (fun w hw => by
    have l := v_what_lt s.ok (Nat.le_refl n) w hi
    show (_ && decide _) = (_ && decide _)
    rw [decide_eq_decide.mpr (nI_eq (show v_what c K B n w i < 2 ^ 31 by omega) (show e < 2 ^ 31 by omega))])] at x2
  exact ⟨h2, x2, f2⟩
theorem o_le (c n : Nat) (K P B : Nat → Nat) (ch : Nat → Nat → Nat → Nat) (q v i e : Nat) : o_t c n K P B ch q v i e ≤ v_ways c K B n ∧ o_A c n K P B ch q v ≤ v_ways c K B n := ⟨cntN_le _ _, cntN_le _ _⟩
theorem lNt {x : Nat} (hx : x < 2 ^ 62) : (lN x).toInt = x := by
  rw [lN_lI, lI_toInt (by omega) (by omega)]
theorem lw_add {k q v i e : Nat} (s : lS c n K P B np T C nr U V W k h h1) (hq : q < 3) (hi : i < n) (he : e < 5) (h0 : o_A c n K P B (v_chs np T C B) q v ≠ 0) : ∃ h2, lS c n K P B np T C nr U V W k h h2 ∧ ∀ (x7 : UInt64) (S m : Int), FA x7 S (o_A c n K P B (v_chs np T C B) q v) m → m ≤ 8 → 0 ≤ m → S + (o_t c n K P B (v_chs np T C B) q v i e : Nat) ≤ (o_A c n K P B (v_chs np T C B) q v : Nat) → ∃ x8, FA x8 (S + (o_t c n K P B (v_chs np T C B) q v i e : Nat)) (o_A c n K P B (v_chs np T C B) q v) (m + 2) ∧ ∀ R, XX true 18 112 662 [.ref 48, .ref 64, .ref 153, ax_junk, .int (nI q), .int (nI v), .int (nI i), .double (x8), ax_junk, .int (nI (e + 1)), ax_junk, ax_junk, ax_junk, ax_junk, ax_junk] [] (h2) (R) → XX true 18 112 662 [.ref 48, .ref 64, .ref 153, ax_junk, .int (nI q), .int (nI v), .int (nI i), .double (x7), ax_junk, .int (nI e), ax_junk, ax_junk, ax_junk, ax_junk, ax_junk] [] (h1) (R) := by
  have wn := v_ways_le s.2.1.ok (Nat.le_refl n)
  obtain ⟨h2, x2, f2⟩ := lw_odd s.2.2 (v := v) hq hi he (part := nI 0) (by decide)
  have s2 := s.cl f2
  obtain ⟨h3, x3, f3⟩ := lw_odd s2.2.2 (v := v) hq hi he (part := nI 1) (by decide)
  have s3 := s2.cl f3
  have le := o_le c n K P B (v_chs np T C B) q v i e
  generalize hA : o_A c n K P B (v_chs np T C B) q v = A at *
  generalize ht : o_t c n K P B (v_chs np T C B) q v i e = t at *
  unfold v_oddsA at x2 x3
  rw [if_neg h0, if_pos rfl] at x2
  rw [if_neg h0, if_neg (by decide)] at x3
  have g0 : 0 < Nat.gcd t A := Nat.gcd_pos_of_pos_right t (by omega)
  have d1 := Nat.div_mul_cancel (Nat.gcd_dvd_left t A)
  have d2 := Nat.div_mul_cancel (Nat.gcd_dvd_right t A)
  have l1 := Nat.div_le_self t (Nat.gcd t A)
  have l2 := Nat.div_le_self A (Nat.gcd t A)
  generalize hu : t / Nat.gcd t A = u at *
  generalize hd : A / Nat.gcd t A = d at *
  generalize Nat.gcd t A = g at *
  have dp : 1 ≤ d := by
    rcases Nat.eq_zero_or_pos d with z | z
    · rw [z, Nat.zero_mul] at d2; omega
    · exact z
  have fq := f_quot (u := lN u) (d := lN d) (by rw [lNt (by omega)]; omega) (by rw [lNt (by omega)]; omega) (by rw [lNt (by omega)]; omega)
  rw [lNt (by omega), lNt (by omega)] at fq
  refine ⟨h3, s3, fun x7 S m fa m8 m0 hS => ?_⟩
  have eq : (u : Int) * (A : Int) = (t : Int) * (d : Int) := by
    have : u * A = t * d := by
      rw [← d1, ← d2, Nat.mul_comm d g, Nat.mul_assoc]
    exact_mod_cast this
  obtain ⟨n1, fa2⟩ := FA_s fa m8 m0 fq (by omega) hS eq
  refine ⟨_, fa2, fun R x => ?_⟩
  refine wb_L_law_662 ?_
  rw [if_pos (nI_lt he (by decide)), s.2.1.nn]
  refine cl_L_law_684 rfl (by decide) (x2) ?_
  refine wb_L_law_687 ?_
  rw [s2.2.1.nn]
  refine cl_L_law_702 rfl (by decide) (x3) ?_
  refine wb_L_law_705 ?_
  rw [nI_s]
  exact ⟨f_nn (f_quot (u := lN u) (d := lN d) (by rw [lNt (by omega)]; omega) (by rw [lNt (by omega)]; omega) (by rw [lNt (by omega)]; omega)).1, n1, x⟩
theorem lw_odds {k : Nat} (hL : h.2.2.2.2 < 2 ^ 31) (s : lS c n K P B np T C nr U V W k h h1) : ∃ h2, lS c n K P B np T C nr U V W k h h2 ∧ ∀ R, XX true 18 112 736 [.ref 48, .ref 64, .ref 153, ax_junk, ax_junk, ax_junk, ax_junk, ax_junk, ax_junk, ax_junk, ax_junk, ax_junk, ax_junk, ax_junk, ax_junk] [] (h2) (R) → XX true 18 112 333 [.ref 48, .ref 64, .ref 153, .int (nI (v_ways c K B n)), .int (nI 3), ax_junk, ax_junk, ax_junk, ax_junk, ax_junk, ax_junk, ax_junk, ax_junk, ax_junk, ax_junk] [] (h1) (R) := by
  have ok := s.2.1.ok
  have n6 := s.2.1.n6
  have wn := v_ways_le ok (Nat.le_refl n)
  have wp := v_chn_le ok n (Nat.le_refl n)
  by_cases n0 : n = 0
  · refine ⟨h1, s, fun R x => ?_⟩
    refine wb_L_law_333 ?_
    rw [if_neg (by decide), s.2.1.nn, n0, if_pos (by decide)]
    exact wkj x
  obtain ⟨v1, hv1, xv1⟩ := ll_cell (h := h1) (s.l hL) (k := 43) (by decide)
  obtain ⟨v2, hv2, xv2⟩ := ll_cell (h := h1) (s.l hL) (k := 44) (by decide)
  have hq := Nat.mod_lt v1 (show 0 < 3 by decide)
  have ha := Nat.mod_lt v2 (show 0 < v_ways c K B n by omega)
  obtain ⟨h2, x2, f2⟩ := lw_view s.2.2 hq ha (Nat.le_refl n)
  have s2 := s.cl f2
  obtain ⟨v3, hv3, xv3⟩ := ll_cell (h := h2) (s2.l hL) (k := 45) (by decide)
  have hi := Nat.mod_lt v3 (show 0 < n by omega)
  have pre : ∀ R, XX true 18 112 646 [.ref 48, .ref 64, .ref 153, ax_junk, .int (nI (v1 % 3)), .int (nI (v_pv c K P B (v1 % 3) n (v2 % v_ways c K B n) n)), .int (nI (v3 % n)), ax_junk, ax_junk, ax_junk, ax_junk, ax_junk, ax_junk, ax_junk, ax_junk] [.int (nI 0), .int (nI 0), .int (nI (v3 % n)), .int (nI (v_pv c K P B (v1 % 3) n (v2 % v_ways c K B n) n)), .int (nI n), .int (nI (v1 % 3)), .ref 64] (h2) (R) → XX true 18 112 333 [.ref 48, .ref 64, .ref 153, .int (nI (v_ways c K B n)), .int (nI 3), ax_junk, ax_junk, ax_junk, ax_junk, ax_junk, ax_junk, ax_junk, ax_junk, ax_junk, ax_junk] [] (h1) (R) := by
    intro R x
    refine wb_L_law_333 ?_
    rw [if_neg (by decide), s.2.1.nn, if_neg (nI_p (by omega) (by omega))]
    refine cl_L_law_593 rfl (by decide) (xv1) ?_
    refine wb_L_law_596 ?_
    rw [nI_rem hv1 (by decide)]
    refine ⟨by decide, ?_⟩
    refine cl_L_law_606 rfl (by decide) (xv2) ?_
    refine wb_L_law_609 ?_
    rw [nI_rem hv2 (by omega), s.2.1.nn]
    refine ⟨nI_nz (by omega) (by omega), ?_⟩
    refine cl_L_law_615 rfl (by decide) (x2) ?_
    refine wb_L_law_618 ?_
    refine cl_L_law_623 rfl (by decide) (xv3) ?_
    refine wb_L_law_626 ?_
    rw [s2.2.1.nn, nI_rem hv3 (by omega)]
    exact ⟨nI_nz (by omega) (by omega), wkj x⟩
  generalize v1 % 3 = q at *
  generalize v_pv c K P B q n (v2 % v_ways c K B n) n = v at *
  generalize v3 % n = i at *
  obtain ⟨h3, x3, f3⟩ := lw_odd s2.2.2 (v := v) hq hi (e := 0) (by decide) (part := nI 0) (by decide)
  have s3 := s2.cl f3
  by_cases z : o_A c n K P B (v_chs np T C B) q v = 0
  · refine ⟨h3, s3, fun R x => pre R ?_⟩
    unfold v_oddsA at x3
    rw [if_pos z] at x3
    refine cl_L_law_646 rfl (by decide) (x3) ?_
    refine wb_L_law_649 ?_
    rw [if_pos (by decide)]
    exact wkj x
  · have le := o_le c n K P B (v_chs np T C B) q v i 0
    have five := cnt_five (o_all c n K P B (v_chs np T C B) q v) (fun w => v_what c K B n w i) (v_ways c K B n) (fun w hw => v_what_lt ok (Nat.le_refl n) w hi)
    have five' : o_t c n K P B (v_chs np T C B) q v i 0 + o_t c n K P B (v_chs np T C B) q v i 1 + o_t c n K P B (v_chs np T C B) q v i 2 + o_t c n K P B (v_chs np T C B) q v i 3 + o_t c n K P B (v_chs np T C B) q v i 4 = o_A c n K P B (v_chs np T C B) q v := five
    have g0 : 0 < Nat.gcd (o_t c n K P B (v_chs np T C B) q v i 0) (o_A c n K P B (v_chs np T C B) q v) := Nat.gcd_pos_of_pos_right _ (by omega)
    have l1 := Nat.div_le_self (o_t c n K P B (v_chs np T C B) q v i 0) (Nat.gcd (o_t c n K P B (v_chs np T C B) q v i 0) (o_A c n K P B (v_chs np T C B) q v))
    unfold v_oddsA at x3
    rw [if_neg z, if_pos rfl] at x3
    obtain ⟨h4, s4, x4⟩ := lw_add s3 (v := v) hq hi (e := 0) (by decide) z
    obtain ⟨h5, s5, x5⟩ := lw_add s4 (v := v) hq hi (e := 1) (by decide) z
    obtain ⟨h6, s6, x6⟩ := lw_add s5 (v := v) hq hi (e := 2) (by decide) z
    obtain ⟨h7, s7, x7⟩ := lw_add s6 (v := v) hq hi (e := 3) (by decide) z
    obtain ⟨h8, s8, x8⟩ := lw_add s7 (v := v) hq hi (e := 4) (by decide) z
    have F0 : FA 0 0 (o_A c n K P B (v_chs np T C B) q v) 0 := FA_0 (by omega)
    obtain ⟨d1, F1, y1⟩ := x4 _ _ _ F0 (by decide) (by decide) (by omega)
    obtain ⟨d2, F2, y2⟩ := x5 _ _ _ F1 (by decide) (by decide) (by omega)
    obtain ⟨d3, F3, y3⟩ := x6 _ _ _ F2 (by decide) (by decide) (by omega)
    obtain ⟨d4, F4, y4⟩ := x7 _ _ _ F3 (by decide) (by decide) (by omega)
    obtain ⟨d5, F5, y5⟩ := x8 _ _ _ F4 (by decide) (by decide) (by omega)
    have F6 : FA d5 (o_A c n K P B (v_chs np T C B) q v) (o_A c n K P B (v_chs np T C B) q v) 10 := by
      have e : (0 : Int) + (o_t c n K P B (v_chs np T C B) q v i 0 : Nat) + (o_t c n K P B (v_chs np T C B) q v i 1 : Nat) + (o_t c n K P B (v_chs np T C B) q v i 2 : Nat) + (o_t c n K P B (v_chs np T C B) q v i 3 : Nat) + (o_t c n K P B (v_chs np T C B) q v i 4 : Nat) = (o_A c n K P B (v_chs np T C B) q v : Nat) := by omega
      rw [e] at F5
      exact F5
    obtain ⟨b1, b2⟩ := FA_1 F6
    refine ⟨h8, s8, fun R x => pre R ?_⟩
    refine cl_L_law_646 rfl (by decide) (x3) ?_
    refine wb_L_law_649 ?_
    rw [if_neg (fun y => by
      have y' := congrArg Int64.toInt ((lg_eq0 _ _).mp y)
      rw [lNt (by omega)] at y'
      have nn := Int.natCast_nonneg (o_t c n K P B (v_chs np T C B) q v i 0 / Nat.gcd (o_t c n K P B (v_chs np T C B) q v i 0) (o_A c n K P B (v_chs np T C B) q v))
      rw [y'] at nn
      exact absurd nn (by decide))]
    refine y1 R (y2 R (y3 R (y4 R (y5 R ?_))))
    refine wb_L_law_662 ?_
    rw [if_neg (by decide), if_neg b1, if_pos b2]
    exact wkj x
end S96
