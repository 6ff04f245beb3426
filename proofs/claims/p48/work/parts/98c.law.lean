/-! THE LAW: plans told win no more than the reply; its whole walk -/
section S98c
variable {c n np nr : Nat} {K P B T C : Nat → Nat} {U : Nat → Nat → Nat} {V W : Nat → Int} {h h1 h2 h' : AH}
theorem lw_plan (s : lG c n K P B np T C nr U V W h1) {q t d : Nat} (hq : q < 3) (ht : t < v_sM c n K P B q) (hd : d < 2) : ∃ h2 np' T' C' x, XX true 4 45 0 [.ref 64, .int (nI q), .int (nI (v_sJ c n K P B q t)), .int (nI (v_sV c n K P B q t)), .int (nI d), ax_junk] [] (h1) (some (.int (x)), h2) ∧ fy 0 Xc h1 h2 ∧ lG c n K P B np' T' C' nr U V W h2 ∧ rA c n K P B (v_chs np' T' C' B) U V W nr q = rA c n K P B (v_chs np T C B) U V W nr q := by
  have ok := s.ok
  have n6 := ok.2.2.1
  have si := v_set_is ok ht
  have b3 := v_setB ok ht
  have vl := v_sV_lt c n K P B q t
  obtain ⟨h2, x2, f2, yes, no⟩ := lg_plan s (nI q) (nI (v_sJ c n K P B q t)) (nI (v_sV c n K P B q t)) (nI d)
  by_cases z : plans' c n K P B np T (nI q) (nI (v_sJ c n K P B q t)) (nI (v_sV c n K P B q t)) (nI d)
  · have g := yes z
    have z3 := z.2.2
    rw [ix_nI (by omega), ix_nI (by omega), ix_nI (by omega)] at z3
    rw [ix_nI (show q < 2 ^ 31 by omega), ix_nI (show v_sJ c n K P B q t < 2 ^ 31 by omega), ix_nI (show v_sV c n K P B q t < 2 ^ 31 by omega), ix_nI (show d < 2 ^ 31 by omega)] at g
    refine ⟨h2, _, _, _, _, x2, f2, g, congrArg Prod.fst (v_rep_cg ok (fun q' j v h1 h2 h3 => ?_))⟩
    have e := tl1_ne (x := (np, T, C)) (B := B) (p := q) (j := v_sJ c n K P B q t) (v := v_sV c n K P B q t) (y := d) (p' := q') (j' := j) (v' := v) (fun w => h3 ((v_key_eq (by omega) (by omega) (by omega) (by omega)).mp w).1)
    unfold v_tl1 at e
    rw [if_pos z3] at e
    exact e
  · exact ⟨h2, np, T, C, _, x2, f2, no z, rfl⟩
theorem lw_try {k q t : Nat} {R0 rx : Int} {ry rg : Nat} {x7 : UInt64} (hL : h.2.2.2.2 < 2 ^ 31) (s : lS c n K P B np T C nr U V W k h h1) (hq : q < 3) (ht : t < 5) (mu : ¬ muchP c n K P B q) (m0 : v_sM c n K P B q ≠ 0) (rE : rA c n K P B (v_chs np T C B) U V W nr q = R0) (fq : FQ x7 rx ry) (rg1 : 1 ≤ rg) (ry1 : 1 ≤ ry) (erx : rx * rg = R0) (ery : ry * rg = v_chn c K B n) (rx1 : -30000000 ≤ rx) (rx2 : rx ≤ 30000000) : ∃ h2 np' T' C', lS c n K P B np' T' C' nr U V W k h h2 ∧ rA c n K P B (v_chs np' T' C' B) U V W nr q = R0 ∧ ∀ R, XX true 18 112 1073 [.ref 48, .ref 64, .ref 153, ax_junk, ax_junk, ax_junk, .int (nI q), .double (x7), ax_junk, .int (nI (t + 1)), ax_junk, ax_junk, ax_junk, ax_junk, ax_junk] [] (h2) (R) → XX true 18 112 1073 [.ref 48, .ref 64, .ref 153, ax_junk, ax_junk, ax_junk, .int (nI q), .double (x7), ax_junk, .int (nI t), ax_junk, ax_junk, ax_junk, ax_junk, ax_junk] [] (h1) (R) := by
  have ok := s.2.1.ok
  have n6 := s.2.1.n6
  have m8 := v_sM_le ok q
  obtain ⟨ha, xa, fa⟩ := lg_sets s.2.2 (nI q)
  have sa := s.cl fa
  unfold a_sets at xa
  rw [if_pos (pl3 hq), ix_nI (by omega)] at xa
  obtain ⟨v1, hv1, xv1⟩ := ll_cell (h := ha) (sa.l hL) (k := 47 + t) (by omega)
  have hm := Nat.mod_lt v1 (show 0 < v_sM c n K P B q by omega)
  have pre : ∀ R, XX true 18 112 1118 [.ref 48, .ref 64, .ref 153, ax_junk, ax_junk, ax_junk, .int (nI q), .double (x7), ax_junk, .int (nI t), ax_junk, .int (nI (v1 % v_sM c n K P B q)), ax_junk, ax_junk, ax_junk] [.int (nI 0), .int (nI (v1 % v_sM c n K P B q)), .int (nI q), .ref 64, .int (nI q), .ref 64] (ha) (R) → XX true 18 112 1073 [.ref 48, .ref 64, .ref 153, ax_junk, ax_junk, ax_junk, .int (nI q), .double (x7), ax_junk, .int (nI t), ax_junk, ax_junk, ax_junk, ax_junk, ax_junk] [] (h1) (R) := by
    intro R x
    refine wb_L_law_1073 ?_
    rw [if_pos (nI_lt ht (by decide))]
    refine cl_L_law_1082 rfl (by decide) (xa) ?_
    refine wb_L_law_1085 ?_
    rw [if_neg (nI_z (by omega) (by omega)), nI_add]
    refine cl_L_law_1101 rfl (by decide) (xv1) ?_
    refine wb_L_law_1104 ?_
    rw [nI_rem hv1 (by omega)]
    exact ⟨nI_nz (by omega) (by omega), wkj x⟩
  generalize v1 % v_sM c n K P B q = i at *
  obtain ⟨hb, xb, fb⟩ := (lw_setOf sa.2.2 hq hm).1
  have sb := sa.cl fb
  obtain ⟨hc, xc, fc⟩ := (lw_setOf sb.2.2 hq hm).2
  have sc := sb.cl fc
  obtain ⟨v2, hv2, xv2⟩ := ll_cell (h := hc) (sc.l hL) (k := 52 + t) (by omega)
  have h2m := Nat.mod_lt v2 (show 0 < 2 by decide)
  obtain ⟨hd, np', T', C', xx, xd, fd, gd, rE'⟩ := lw_plan sc.2.2 hq hm h2m
  have sd := sc.cl ⟨fd, gd⟩
  obtain ⟨D1, D2⟩ := lw_D sd.2.2
  have ab := mA_le sd.2.2 (v_chs np' T' C' B) q
  have ge := rep_ge (U := U) (V := V) (W := W) (nr := nr) ok (np := np') (T := T') (C := C') hq mu
  obtain ⟨mx, my, mg, mg1, my1, myD, emx, emy, mx1, mx2, mr0, mr1, mm0, mm1⟩ := frac_is ab.1 ab.2 D1 D2
  have ge' : mA c n K P B (v_chs np' T' C' B) U V W nr q ≤ R0 := by
    rw [← rE, ← rE']
    exact ge
  obtain ⟨he, xe, fe⟩ := lw_mean sd.2.2 hq (part := nI 0) (by decide)
  have se := sd.cl fe
  obtain ⟨hf, xf, ff⟩ := lw_mean se.2.2 hq (part := nI 1) (by decide)
  have sf := se.cl ff
  rw [mm0] at xe
  rw [mm1] at xf
  have fqm := fq_of mx1 mx2 my1 (by omega)
  have fm := f_mean fqm fq (by omega) (frac_le mg1 rg1 emx emy erx ery ge')
  have pre2 : ∀ R, XX true 18 112 1144 [.ref 48, .ref 64, .ref 153, ax_junk, ax_junk, ax_junk, .int (nI q), .double (x7), ax_junk, .int (nI t), ax_junk, ax_junk, ax_junk, ax_junk, ax_junk] [.int (xx)] (hd) (R) → XX true 18 112 1073 [.ref 48, .ref 64, .ref 153, ax_junk, ax_junk, ax_junk, .int (nI q), .double (x7), ax_junk, .int (nI t), ax_junk, ax_junk, ax_junk, ax_junk, ax_junk] [] (h1) (R) := by
    intro R x
    refine pre R ?_
    refine cl_L_law_1118 rfl (by decide) (xb) ?_
    refine wb_L_law_1121 ?_
    refine cl_L_law_1127 rfl (by decide) (xc) ?_
    refine wb_L_law_1130 ?_
    rw [nI_add]
    refine cl_L_law_1136 rfl (by decide) (xv2) ?_
    refine wb_L_law_1139 ?_
    rw [nI_rem hv2 (by decide)]
    refine ⟨by decide, ?_⟩
    refine cl_L_law_1141 rfl (by decide) (xd) ?_
    exact wkj x
  by_cases z : xx = -nI 4
  · refine ⟨hd, np', T', C', sd, rE'.trans rE, fun R x => pre2 R ?_⟩
    refine wb_L_law_1144 ?_
    rw [if_pos z]
    refine wb_L_law_1182 ?_
    rw [nI_s]
    exact x
  · refine ⟨hf, np', T', C', sf, rE'.trans rE, fun R x => pre2 R ?_⟩
    refine wb_L_law_1144 ?_
    rw [if_neg z]
    refine cl_L_law_1157 rfl (by decide) (xe) ?_
    refine wb_L_law_1160 ?_
    refine cl_L_law_1165 rfl (by decide) (xf) ?_
    refine wb_L_law_1168 ?_
    rw [if_pos fm.2]
    refine ⟨f_nn fqm.1, fm.1, ?_⟩
    refine wb_L_law_1182 ?_
    rw [nI_s]
    exact x
theorem lw_end {k : Nat} (s : lS c n K P B np T C nr U V W k h h1) : XX true 18 112 1188 [ax_junk, .ref 64, .ref 153, ax_junk, ax_junk, ax_junk, ax_junk, ax_junk, ax_junk, ax_junk, ax_junk, ax_junk, ax_junk, ax_junk, ax_junk] [] (h1) ((some (.int (nI 1)), h1)) := by
  have n6 := s.2.1.n6
  have x := lg_count s.2.2 (nI 1)
  unfold a_count at x
  rw [if_neg (by decide), if_pos rfl] at x
  refine wb_L_law_1188 ?_
  refine cl_L_law_1190 rfl (by decide) (x) ?_
  refine wb_L_law_1193 ?_
  rw [s.2.1.nn, if_pos ((lg_eq0 _ _).mpr (nI_l (by omega)).symm)]
theorem lw_last {k : Nat} (hL : h.2.2.2.2 < 2 ^ 31) (s : lS c n K P B np T C nr U V W k h h1) : ∃ h2 np' T' C', lS c n K P B np' T' C' nr U V W k h h2 ∧ XX true 18 112 919 [.ref 48, .ref 64, .ref 153, ax_junk, ax_junk, ax_junk, .int (nI 3), ax_junk, ax_junk, ax_junk, ax_junk, ax_junk, ax_junk, ax_junk, ax_junk] [] (h1) ((some (.int (nI 1)), h2)) := by
  have ok := s.2.1.ok
  obtain ⟨v, hv, xv⟩ := ll_cell (h := h1) (s.l hL) (k := 46) (by decide)
  have hq := Nat.mod_lt v (show 0 < 3 by decide)
  have pre : ∀ R, XX true 18 112 1041 [.ref 48, .ref 64, .ref 153, ax_junk, ax_junk, ax_junk, .int (nI (v % 3)), ax_junk, ax_junk, ax_junk, ax_junk, ax_junk, ax_junk, ax_junk, ax_junk] [.int (nI 1), .int (nI (v % 3)), .ref 64] (h1) (R) → XX true 18 112 919 [.ref 48, .ref 64, .ref 153, ax_junk, ax_junk, ax_junk, .int (nI 3), ax_junk, ax_junk, ax_junk, ax_junk, ax_junk, ax_junk, ax_junk, ax_junk] [] (h1) (R) := by
    intro R x
    refine wb_L_law_919 ?_
    rw [if_neg (by decide)]
    refine cl_L_law_1030 rfl (by decide) (xv) ?_
    refine wb_L_law_1033 ?_
    rw [nI_rem hv (by decide)]
    exact ⟨by decide, x⟩
  generalize v % 3 = q at *
  by_cases mu : muchP c n K P B q
  · obtain ⟨h2, x2, f2⟩ := lw_replyM s.2.2 hq (part := nI 1) (by decide) mu
    have s2 := s.cl f2
    refine ⟨h2, np, T, C, s2, pre _ ?_⟩
    refine cl_L_law_1041 rfl (by decide) (x2) ?_
    refine wb_L_law_1044 ?_
    rw [if_pos (by decide)]
    exact wkj (lw_end s2)
  · obtain ⟨D1, D2⟩ := lw_D s.2.2
    have rb := v_rep_le ok s.2.2.rr s.2.2.ww (v_chs np T C B) q
    obtain ⟨rx, ry, rg, rg1, ry1, ryD, erx, ery, rx1, rx2, r0, r1, -, -⟩ := frac_is rb.1 rb.2 D1 D2
    obtain ⟨ha, xa, fa⟩ := lw_reply s.2.2 hq (part := nI 1) (by decide) mu
    have sa := s.cl fa
    obtain ⟨hb, xb, fb⟩ := lw_reply sa.2.2 hq (part := nI 0) (by decide) mu
    have sb := sa.cl fb
    obtain ⟨hc, xc, fc⟩ := lw_reply sb.2.2 hq (part := nI 1) (by decide) mu
    have sc := sb.cl fc
    rw [r1] at xa xc
    rw [r0] at xb
    have fq := fq_of rx1 rx2 ry1 (by omega)
    have pre2 : ∀ R, XX true 18 112 1073 [.ref 48, .ref 64, .ref 153, ax_junk, ax_junk, ax_junk, .int (nI q), .double (FP.ddiv (FP.l2d (lI rx)) (FP.l2d (lN ry))), ax_junk, .int (nI 0), ax_junk, ax_junk, ax_junk, ax_junk, ax_junk] [] (hc) (R) → XX true 18 112 919 [.ref 48, .ref 64, .ref 153, ax_junk, ax_junk, ax_junk, .int (nI 3), ax_junk, ax_junk, ax_junk, ax_junk, ax_junk, ax_junk, ax_junk, ax_junk] [] (h1) (R) := by
      intro R x
      refine pre R ?_
      refine cl_L_law_1041 rfl (by decide) (xa) ?_
      refine wb_L_law_1044 ?_
      rw [if_neg (lw_nM (by omega))]
      refine cl_L_law_1055 rfl (by decide) (xb) ?_
      refine wb_L_law_1058 ?_
      refine cl_L_law_1063 rfl (by decide) (xc) ?_
      refine wb_L_law_1066 ?_
      exact ⟨f_nn fq.1, x⟩
    by_cases m0 : v_sM c n K P B q = 0
    · obtain ⟨hd, xd, fd⟩ := lg_sets sc.2.2 (nI q)
      have sd := sc.cl fd
      unfold a_sets at xd
      rw [if_pos (pl3 hq), ix_nI (by omega), m0] at xd
      refine ⟨hd, np, T, C, sd, pre2 _ ?_⟩
      refine wb_L_law_1073 ?_
      rw [if_pos (by decide)]
      refine cl_L_law_1082 rfl (by decide) (xd) ?_
      refine wb_L_law_1085 ?_
      rw [if_pos rfl]
      exact wkj (lw_end sd)
    · obtain ⟨g1, n1, T1, C1, z1, e1, w1⟩ := lw_try (t := 0) hL sc hq (by decide) mu m0 rfl fq rg1 ry1 erx ery rx1 rx2
      obtain ⟨g2, n2, T2, C2, z2, e2, w2⟩ := lw_try (t := 1) hL z1 hq (by decide) mu m0 e1 fq rg1 ry1 erx ery rx1 rx2
      obtain ⟨g3, n3, T3, C3, z3, e3, w3⟩ := lw_try (t := 2) hL z2 hq (by decide) mu m0 e2 fq rg1 ry1 erx ery rx1 rx2
      obtain ⟨g4, n4, T4, C4, z4, e4, w4⟩ := lw_try (t := 3) hL z3 hq (by decide) mu m0 e3 fq rg1 ry1 erx ery rx1 rx2
      obtain ⟨g5, n5, T5, C5, z5, e5, w5⟩ := lw_try (t := 4) hL z4 hq (by decide) mu m0 e4 fq rg1 ry1 erx ery rx1 rx2
      refine ⟨g5, n5, T5, C5, z5, pre2 _ (w1 _ (w2 _ (w3 _ (w4 _ (w5 _ ?_)))))⟩
      refine wb_L_law_1073 ?_
      rw [if_neg (by decide)]
      exact wkj (lw_end z5)
/-- all of it, from behind the making -/
theorem lw_law (hL : h.2.2.2.2 < 2 ^ 31) (o : oS c n K P B h) (g : lG c n K P B 0 T C nr U V W h) (a9 : hI h 153 9 = nI 0) : ∃ h', XX true 18 112 15 [.ref 48, .ref 64, .ref 153, ax_junk, ax_junk, ax_junk, ax_junk, ax_junk, ax_junk, ax_junk, ax_junk, ax_junk, ax_junk, ax_junk, ax_junk] [] (h) ((some (.int (nI 1)), h')) ∧ fy 173877 (fun _ => True) h h' := by
  have n6 := o.n6
  obtain ⟨v, hv, xv⟩ := ll_cell (h := h) hL (k := 19) (by decide)
  obtain ⟨h1, np1, T1, C1, x1, f1, o1, g1⟩ := ll_lots o g ⟨by decide, a9, fun k hk => absurd hk (Nat.not_lt_zero _)⟩ (nI v)
  have s1 : lS c n K P B np1 T1 C1 nr U V W 96090 h h1 := ⟨f1.mono (fun _ _ => trivial) (Nat.le_refl _), o1, g1⟩
  have y1 := lg_ways s1.2.2 (nI n)
  unfold a_ways at y1
  rw [if_pos ((isLe_nI (by omega) (by omega)).mpr (Nat.le_refl _)), ix_nI (by omega)] at y1
  obtain ⟨h2, s2, x2⟩ := lw_turns hL 16 0 h1 rfl s1
  obtain ⟨h3, s3, x3⟩ := lw_players hL s2
  obtain ⟨h4, s4, x4⟩ := lw_odds hL s3
  obtain ⟨h5, s5, x5⟩ := lw_settle s4
  obtain ⟨h6, np6, T6, C6, s6, x6⟩ := lw_bet s5 (q := 0) (by decide)
  obtain ⟨h7, np7, T7, C7, s7, x7⟩ := lw_bet s6 (q := 1) (by decide)
  obtain ⟨h8, np8, T8, C8, s8, x8⟩ := lw_bet s7 (q := 2) (by decide)
  obtain ⟨h9, np9, T9, C9, s9, x9⟩ := lw_last hL s8
  refine ⟨h9, ?_, s9.1⟩
  refine wb_L_law_15 ?_
  refine cl_L_law_24 rfl (by decide) (xv) ?_
  refine cl_L_law_27 rfl (by decide) (x1) ?_
  refine wb_L_law_30 ?_
  rw [if_neg (by decide), o1.nn]
  refine cl_L_law_40 rfl (by decide) (y1) ?_
  refine wb_L_law_43 ?_
  exact x2 _ (x3 _ (x4 _ (x5 _ (x6 _ (x7 _ (x8 _ x9))))))
end S98c
