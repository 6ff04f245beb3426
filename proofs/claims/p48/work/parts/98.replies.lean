/-! THE LAW: replies and means -/
section S98
variable {c n np nr : Nat} {K P B T C : Nat → Nat} {U : Nat → Nat → Nat} {V W : Nat → Int} {h h1 h2 h' : AH}
theorem lI_quo {A x : Int} {g : Nat} (e : x * g = A) (g1 : 1 ≤ g) (g2 : g < 4096) (h1 : -30000000 ≤ A) (h2 : A ≤ 30000000) : lI A / lN g = lI x ∧ -30000000 ≤ x ∧ x ≤ 30000000 := by
  have gT : (lN g).toInt = g := lNt (by omega)
  have bd : -30000000 ≤ x ∧ x ≤ 30000000 := by
    have hg : (1 : Int) ≤ g := by omega
    constructor
    · rcases Int.le_total 0 x with z | z
      · omega
      · have := Int.mul_le_mul_of_nonpos_left z hg
        omega
    · rcases Int.le_total 0 x with z | z
      · have := Int.mul_le_mul_of_nonneg_left hg z
        omega
      · omega
  refine ⟨?_, bd⟩
  have ne : (lN g) ≠ -1 := fun y => by
    have := congrArg Int64.toInt y
    rw [gT] at this
    have e1 : (-1 : Int64).toInt = -1 := by decide
    omega
  apply Int64.toInt_inj.mp
  rw [Int64.toInt_div_of_ne_right _ _ ne, gT, lI_toInt (by omega) (by omega), lI_toInt (by omega) (by omega), ← e]
  exact Int.mul_tdiv_cancel x (by omega)
/-- a fraction in lowest terms, as it is answered -/
theorem frac_is {A : Int} {D : Nat} (h1 : -30000000 ≤ A) (h2 : A ≤ 30000000) (hD : 1 ≤ D) (hD2 : D < 2048) : ∃ (x : Int) (y g : Nat), 1 ≤ g ∧ 1 ≤ y ∧ y ≤ D ∧ x * g = A ∧ y * g = D ∧ -30000000 ≤ x ∧ x ≤ 30000000 ∧ v_frac A D (nI 0) = lI x ∧ v_frac A D (nI 1) = lN y ∧ v_mean A D 1 (nI 0) = lI x ∧ v_mean A D 1 (nI 1) = lN y := by
  have g1 : 1 ≤ Nat.gcd A.natAbs D := Nat.gcd_pos_of_pos_right _ hD
  have gD : Nat.gcd A.natAbs D ≤ D := Nat.le_of_dvd hD (Nat.gcd_dvd_right _ _)
  have d1 : D / Nat.gcd A.natAbs D * Nat.gcd A.natAbs D = D := Nat.div_mul_cancel (Nat.gcd_dvd_right _ _)
  have l1 : D / Nat.gcd A.natAbs D ≤ D := Nat.div_le_self _ _
  have d2 : A / (Nat.gcd A.natAbs D : Nat) * (Nat.gcd A.natAbs D : Nat) = A := Int.ediv_mul_cancel (Int.ofNat_dvd_left.mpr (Nat.gcd_dvd_left _ _))
  have z0 : A = 0 → D / Nat.gcd A.natAbs D = 1 := fun z => by
    rw [z]
    show D / Nat.gcd 0 D = 1
    rw [Nat.gcd_zero_left, Nat.div_self hD]
  obtain ⟨q1, q2, q3⟩ := lI_quo d2 g1 (by omega) h1 h2
  have f1 : v_frac A D (nI 1) = lN (D / Nat.gcd A.natAbs D) := by
    unfold v_frac
    rw [if_neg (by decide), lN_lI D]
    have := (lI_quo (A := (D : Int)) (x := ((D / Nat.gcd A.natAbs D : Nat) : Int)) (g := Nat.gcd A.natAbs D) (by exact_mod_cast d1) g1 (by omega) (by omega) (by omega)).1
    rw [this, ← lN_lI]
  unfold v_mean
  rw [Nat.gcd_one_left, Nat.div_one, Nat.div_one]
  have f0 : v_frac A D (nI 0) = lI A / lN (Nat.gcd A.natAbs D) := by
    unfold v_frac
    rw [if_pos rfl]
  generalize Nat.gcd A.natAbs D = g at *
  generalize hx : A / (g : Int) = x at *
  generalize hy : D / g = y at *
  have y1 : 1 ≤ y := by
    rcases Nat.eq_zero_or_pos y with z | z
    · rw [z, Nat.zero_mul] at d1; omega
    · exact z
  refine ⟨x, y, g, g1, y1, l1, d2, d1, q2, q3, f0.trans q1, f1, ?_, ?_⟩
  · rw [q1]
    by_cases z : lI x = lN 0
    · rw [if_pos z, z]; decide
    · have fi : v_fit (lI x) 1 := by
        unfold v_fit
        rw [lI_toInt (by omega) (by omega)]
        omega
      rw [if_neg z, if_pos fi, if_pos rfl, lN_lI 1, ← Int64.ofInt_mul]
      congr 1; omega
  · rw [q1]
    by_cases z : lI x = lN 0
    · have x0 : x = 0 := by
        have := congrArg Int64.toInt z
        rw [lI_toInt (by omega) (by omega)] at this
        exact this
      have : y = 1 := z0 (by rw [← d2, x0, Int.zero_mul])
      rw [if_pos z, this]; decide
    · have fi : v_fit (lI x) 1 := by
        unfold v_fit
        rw [lI_toInt (by omega) (by omega)]
        omega
      rw [if_neg z, if_pos fi, if_neg (by decide)]
/-- the mean's numerator; the reply's -/
noncomputable abbrev mA (c n : Nat) (K P B : Nat → Nat) (ch : Nat → Nat → Nat → Nat) (U : Nat → Nat → Nat) (V W : Nat → Int) (nr q : Nat) : Int := sumZ (v_sumf c n K P B ch U V W nr 3 q) (v_ways c K B n)
noncomputable abbrev rA (c n : Nat) (K P B : Nat → Nat) (ch : Nat → Nat → Nat → Nat) (U : Nat → Nat → Nat) (V W : Nat → Int) (nr q : Nat) : Int := (v_rep c n K P B ch U V W nr q).1
theorem mA_le (g : lG c n K P B np T C nr U V W h) (ch : Nat → Nat → Nat → Nat) (q : Nat) : -30000000 ≤ mA c n K P B ch U V W nr q ∧ mA c n K P B ch U V W nr q ≤ 30000000 := by
  have wn := v_ways_le g.ok (Nat.le_refl n)
  have := sumZ_le (fun i => v_sumf_le g.ok g.rr g.ww ch 3 q i) (v_ways c K B n)
  have : 14256 * v_ways c K B n ≤ 14256 * 1620 := Nat.mul_le_mul_left _ wn
  show -30000000 ≤ sumZ _ _ ∧ sumZ _ _ ≤ 30000000
  omega
theorem lw_D (g : lG c n K P B np T C nr U V W h) : 1 ≤ v_chn c K B n ∧ v_chn c K B n < 2048 := by
  have wn := v_ways_le g.ok (Nat.le_refl n)
  have wp := v_chn_le g.ok n (Nat.le_refl n)
  omega
theorem pl3 {q : Nat} (hq : q < 3) : isPl (nI q) := ⟨nI_le (Nat.zero_le _) (by omega), nI_le (by omega) (by decide)⟩
theorem lw_reply (s : lG c n K P B np T C nr U V W h1) {q : Nat} (hq : q < 3) {part : Int32} (hp : isPt part) (nm : ¬ muchP c n K P B q) : ∃ h2, XX true 7 63 0 [.ref 64, .int (nI q), .int (part)] [] (h1) (some (.long (v_frac (rA c n K P B (v_chs np T C B) U V W nr q) (v_chn c K B n) part)), h2) ∧ fy 0 Xc h1 h2 ∧ lG c n K P B np T C nr U V W h2 := by
  obtain ⟨h2, x2, f2⟩ := lg_reply s (nI q) part
  unfold a_reply at x2
  rw [if_pos ⟨pl3 hq, hp⟩, ix_nI (by omega), if_neg nm] at x2
  exact ⟨h2, x2, f2⟩
theorem lw_replyM (s : lG c n K P B np T C nr U V W h1) {q : Nat} (hq : q < 3) {part : Int32} (hp : isPt part) (nm : muchP c n K P B q) : ∃ h2, XX true 7 63 0 [.ref 64, .int (nI q), .int (part)] [] (h1) (some (.long (lNO 5)), h2) ∧ fy 0 Xc h1 h2 ∧ lG c n K P B np T C nr U V W h2 := by
  obtain ⟨h2, x2, f2⟩ := lg_reply s (nI q) part
  unfold a_reply at x2
  rw [if_pos ⟨pl3 hq, hp⟩, ix_nI (by omega), if_pos nm] at x2
  exact ⟨h2, x2, f2⟩
theorem lw_mean (s : lG c n K P B np T C nr U V W h1) {q : Nat} (hq : q < 3) {part : Int32} (hp : isPt part) : ∃ h2, XX true 7 57 0 [.ref 64, .int (nI q), .int (part), ax_junk, ax_junk, ax_junk, ax_junk, ax_junk, ax_junk, ax_junk, ax_junk, ax_junk, ax_junk] [] (h1) (some (.long (v_mean (mA c n K P B (v_chs np T C B) U V W nr q) (v_chn c K B n) 1 part)), h2) ∧ fy 0 Xc h1 h2 ∧ lG c n K P B np T C nr U V W h2 := by
  obtain ⟨h2, x2, f2⟩ := lg_mean s (nI q) part
  unfold a_mean at x2
  rw [if_pos ⟨pl3 hq, hp⟩, ix_nI (by omega)] at x2
  exact ⟨h2, x2, f2⟩
theorem lw_nM {y : Nat} (hy : y < 2 ^ 62) : ¬ lg_cmp (lN y) (-lN 4611686018427387909) = nI 0 := fun z => by
  have e := congrArg Int64.toInt ((lg_eq0 _ _).mp z)
  rw [lNt hy, show (-lN 4611686018427387909 : Int64).toInt = -4611686018427387909 by decide] at e
  omega
theorem fq_of {x : Int} {y : Nat} (h1 : -30000000 ≤ x) (h2 : x ≤ 30000000) (y1 : 1 ≤ y) (y2 : y < 2048) : FQ (FP.ddiv (FP.l2d (lI x)) (FP.l2d (lN y))) x y := by
  have f := f_quot (u := lI x) (d := lN y) (by rw [lNt (by omega)]; omega) (by rw [lNt (by omega)]; omega) (by rw [lI_toInt (by omega) (by omega)]; omega)
  rw [lNt (by omega), lI_toInt (by omega) (by omega)] at f
  exact f
/-- fractions of one denominator in lowest terms stand as their numerators -/
theorem frac_le {x x' A A' : Int} {y y' g g' D : Nat} (g1 : 1 ≤ g) (g1' : 1 ≤ g') (ex : x * g = A) (ey : y * g = D) (ex' : x' * g' = A') (ey' : y' * g' = D) (le : A ≤ A') : x * y' ≤ x' * y := by
  have hD : (0 : Int) ≤ D := Int.natCast_nonneg _
  have e1 : (x * y') * ((g : Int) * g') = A * D := by
    rw [← ex, ← ey']; push_cast; ac_rfl
  have e2 : (x' * y) * ((g : Int) * g') = A' * D := by
    rw [← ex', ← ey]; push_cast; ac_rfl
  have l := Int.mul_le_mul_of_nonneg_right le hD
  rw [← e1, ← e2] at l
  exact Int.le_of_mul_le_mul_right l (Int.mul_pos (by omega) (by omega))
/-- whether too many for some player so far; whether all play best so far -/
def isM (c n : Nat) (K P B : Nat → Nat) (q : Nat) (x : Int32) : Prop := (x = nI 1 ∧ ∃ p, p < q ∧ muchP c n K P B p) ∨ (x = nI 0 ∧ ∀ p, p < q → ¬ muchP c n K P B p)
def isB (c n : Nat) (K P B : Nat → Nat) (ch : Nat → Nat → Nat → Nat) (U : Nat → Nat → Nat) (V W : Nat → Int) (nr q : Nat) (x : Int32) : Prop := (x = nI 1 ∧ ∀ p, p < q → ¬ muchP c n K P B p → bestP c n K P B ch U V W nr p) ∨ (x = nI 0 ∧ ∃ p, p < q ∧ ¬ muchP c n K P B p ∧ ¬ bestP c n K P B ch U V W nr p)
theorem lw_rep {k q : Nat} {x4 x5 : Int32} (s : lS c n K P B np T C nr U V W k h h1) (hq : q < 3) (m4 : isM c n K P B q x4) (m5 : isB c n K P B (v_chs np T C B) U V W nr q x5) : ∃ h2 y4 y5, lS c n K P B np T C nr U V W k h h2 ∧ isM c n K P B (q + 1) y4 ∧ isB c n K P B (v_chs np T C B) U V W nr (q + 1) y5 ∧ ∀ R, XX true 18 112 745 [.ref 48, .ref 64, .ref 153, ax_junk, .int (y4), .int (y5), .int (nI (q + 1)), ax_junk, ax_junk, ax_junk, ax_junk, ax_junk, ax_junk, ax_junk, ax_junk] [] (h2) (R) → XX true 18 112 745 [.ref 48, .ref 64, .ref 153, ax_junk, .int (x4), .int (x5), .int (nI q), ax_junk, ax_junk, ax_junk, ax_junk, ax_junk, ax_junk, ax_junk, ax_junk] [] (h1) (R) := by
  have lq : ∀ p, p < q + 1 → p < q ∨ p = q := fun p hp => by omega
  by_cases mu : muchP c n K P B q
  · obtain ⟨h2, x2, f2⟩ := lw_replyM s.2.2 hq (part := nI 1) (by decide) mu
    refine ⟨h2, nI 1, x5, s.cl f2, Or.inl ⟨rfl, q, Nat.lt_succ_self _, mu⟩, ?_, fun R x => ?_⟩
    · rcases m5 with ⟨e, z⟩ | ⟨e, p, z1, z2⟩
      · exact Or.inl ⟨e, fun p hp nm => (lq p hp).elim (fun y => z p y nm) (fun y => absurd (y ▸ mu) nm)⟩
      · exact Or.inr ⟨e, p, by omega, z2⟩
    · refine wb_L_law_745 ?_
      rw [if_pos (nI_lt hq (by decide))]
      refine cl_L_law_755 rfl (by decide) (x2) ?_
      refine wb_L_law_758 ?_
      rw [if_pos (by decide)]
      refine wb_L_law_881 ?_
      rw [nI_s]
      exact x
  · obtain ⟨D1, D2⟩ := lw_D s.2.2
    have rb := v_rep_le s.2.1.ok s.2.2.rr s.2.2.ww (v_chs np T C B) q
    have ab := mA_le s.2.2 (v_chs np T C B) q
    have ge := rep_ge (U := U) (V := V) (W := W) (nr := nr) s.2.1.ok (np := np) (T := T) (C := C) hq mu
    obtain ⟨rx, ry, rg, rg1, ry1, ryD, erx, ery, rx1, rx2, r0, r1, rm0, rm1⟩ := frac_is rb.1 rb.2 D1 D2
    obtain ⟨mx, my, mg, mg1, my1, myD, emx, emy, mx1, mx2, mr0, mr1, m0, m1⟩ := frac_is ab.1 ab.2 D1 D2
    obtain ⟨ha, xa, fa⟩ := lw_reply s.2.2 hq (part := nI 1) (by decide) mu
    have sa := s.cl fa
    obtain ⟨hb, xb, fb⟩ := lw_reply sa.2.2 hq (part := nI 0) (by decide) mu
    have sb := sa.cl fb
    obtain ⟨hc, xc, fc⟩ := lw_reply sb.2.2 hq (part := nI 1) (by decide) mu
    have sc := sb.cl fc
    obtain ⟨hd, xd, fd⟩ := lw_mean sc.2.2 hq (part := nI 0) (by decide)
    have sd := sc.cl fd
    obtain ⟨he, xe, fe⟩ := lw_mean sd.2.2 hq (part := nI 1) (by decide)
    have se := sd.cl fe
    obtain ⟨hf, xf, ff⟩ := lw_reply se.2.2 hq (part := nI 1) (by decide) mu
    have sf := se.cl ff
    obtain ⟨hg, xg, fg⟩ := lw_reply sf.2.2 hq (part := nI 0) (by decide) mu
    have sg := sf.cl fg
    obtain ⟨hh, xh, fh⟩ := lw_mean sg.2.2 hq (part := nI 0) (by decide)
    have sh := sg.cl fh
    obtain ⟨hi, xi, fi⟩ := lw_reply sh.2.2 hq (part := nI 1) (by decide) mu
    have si := sh.cl fi
    obtain ⟨hj, xj, fj⟩ := lw_mean si.2.2 hq (part := nI 1) (by decide)
    have sj := si.cl fj
    rw [r1] at xa xc xf xi
    rw [r0] at xb xg
    rw [m0] at xd xh
    rw [m1] at xe xj
    have fqr := fq_of rx1 rx2 ry1 (by omega)
    have fqm := fq_of mx1 mx2 my1 (by omega)
    have fb := f_best fqm fqr (by omega) (frac_le mg1 rg1 emx emy erx ery ge)
    -- equal just where it is best
    have bx : bestP c n K P B (v_chs np T C B) U V W nr q ↔ rx = mx ∧ ry = my := by
      show (v_rep c n K P B (v_chs np T C B) U V W nr q).1 = mA c n K P B (v_chs np T C B) U V W nr q ↔ _
      constructor
      · intro z
        have eqs : lI rx = lI mx ∧ lN ry = lN my := by
          rw [← r0, ← r1, ← mr0, ← mr1, z]
          exact ⟨rfl, rfl⟩
        have e1 := congrArg Int64.toInt eqs.1
        have e2 := congrArg Int64.toInt eqs.2
        rw [lI_toInt (by omega) (by omega), lI_toInt (by omega) (by omega)] at e1
        rw [lNt (by omega), lNt (by omega)] at e2
        exact ⟨e1, by omega⟩
      · rintro ⟨z1, z2⟩
        rw [← erx, ← emx, z1]
        have : rg = mg := by
          rw [z2, ← emy] at ery
          exact Nat.eq_of_mul_eq_mul_left (by omega) ery
        rw [this]
    have m4' : isM c n K P B (q + 1) x4 := by
      rcases m4 with ⟨e, p, z1, z2⟩ | ⟨e, z⟩
      · exact Or.inl ⟨e, p, by omega, z2⟩
      · exact Or.inr ⟨e, fun p hp => (lq p hp).elim (z p) (fun y => y ▸ mu)⟩
    have pre : ∀ R, XX true 18 112 851 [.ref 48, .ref 64, .ref 153, ax_junk, .int (x4), ax_junk, .int (nI q), ax_junk, ax_junk, ax_junk, ax_junk, ax_junk, ax_junk, ax_junk, ax_junk] [.long (lI mx), .long (lI rx), .int (x5)] (hh) (R) → XX true 18 112 745 [.ref 48, .ref 64, .ref 153, ax_junk, .int (x4), .int (x5), .int (nI q), ax_junk, ax_junk, ax_junk, ax_junk, ax_junk, ax_junk, ax_junk, ax_junk] [] (h1) (R) := by
      intro R x
      refine wb_L_law_745 ?_
      rw [if_pos (nI_lt hq (by decide))]
      refine cl_L_law_755 rfl (by decide) (xa) ?_
      refine wb_L_law_758 ?_
      rw [if_neg (lw_nM (by omega))]
      refine cl_L_law_775 rfl (by decide) (xb) ?_
      refine wb_L_law_778 ?_
      refine cl_L_law_783 rfl (by decide) (xc) ?_
      refine wb_L_law_786 ?_
      refine ⟨f_nn fqr.1, ?_⟩
      refine cl_L_law_794 rfl (by decide) (xd) ?_
      refine wb_L_law_797 ?_
      refine cl_L_law_802 rfl (by decide) (xe) ?_
      refine wb_L_law_805 ?_
      rw [if_neg fb.2]
      refine ⟨f_nn fqm.1, fb.1, ?_⟩
      refine cl_L_law_825 rfl (by decide) (xf) ?_
      refine wb_L_law_828 ?_
      rw [if_neg (fun y => by
        have y1 := Int64.lt_iff_toInt_lt.mp ((lg_lt0 _ _).mp y)
        rw [lNt (by omega), lNt (by omega)] at y1
        omega)]
      refine cl_L_law_841 rfl (by decide) (xg) ?_
      refine wb_L_law_844 ?_
      refine cl_L_law_848 rfl (by decide) (xh) ?_
      exact x
    have lie : lI rx = lI mx ↔ rx = mx := ⟨fun z => by
      have e1 := congrArg Int64.toInt z
      rw [lI_toInt (by omega) (by omega), lI_toInt (by omega) (by omega)] at e1
      exact e1, fun z => by rw [z]⟩
    have lne : lN ry = lN my ↔ ry = my := ⟨fun z => by
      have e1 := congrArg Int64.toInt z
      rw [lNt (by omega), lNt (by omega)] at e1
      omega, fun z => by rw [z]⟩
    have and0 : x5 &&& nI 0 = nI 0 := by rcases m5 with ⟨e, -⟩ | ⟨e, -⟩ <;> (rw [e]; decide)
    have and1 : x5 &&& nI 1 = x5 := by rcases m5 with ⟨e, -⟩ | ⟨e, -⟩ <;> (rw [e]; decide)
    have no : ¬ bestP c n K P B (v_chs np T C B) U V W nr q → isB c n K P B (v_chs np T C B) U V W nr (q + 1) (nI 0) := fun z => Or.inr ⟨rfl, q, Nat.lt_succ_self _, mu, z⟩
    have tail : ∀ {hz}, ∀ R, XX true 18 112 745 [.ref 48, .ref 64, .ref 153, ax_junk, .int (x4), .int (nI 0), .int (nI (q + 1)), ax_junk, ax_junk, ax_junk, ax_junk, ax_junk, ax_junk, ax_junk, ax_junk] [] (hz) (R) → XX true 18 112 877 [.ref 48, .ref 64, .ref 153, ax_junk, .int (x4), ax_junk, .int (nI q), ax_junk, ax_junk, ax_junk, ax_junk, ax_junk, ax_junk, ax_junk, ax_junk] [.int (x5)] (hz) (R) := by
      intro hz R x
      refine wb_L_law_877 ?_
      refine wb_L_law_878 ?_
      rw [and0]
      refine wb_L_law_881 ?_
      rw [nI_s]
      exact x
    by_cases z1 : rx = mx
    · by_cases z2 : ry = my
      · have be := bx.mpr ⟨z1, z2⟩
        refine ⟨hj, x4, x5, sj, m4', ?_, fun R x => pre R ?_⟩
        · rcases m5 with ⟨e, z⟩ | ⟨e, p, z1, z2⟩
          · exact Or.inl ⟨e, fun p hp nm => (lq p hp).elim (fun y => z p y nm) (fun y => y ▸ be)⟩
          · exact Or.inr ⟨e, p, by omega, z2⟩
        · refine wb_L_law_851 ?_
          rw [if_pos ((lg_eq0 _ _).mpr (lie.mpr z1))]
          refine cl_L_law_859 rfl (by decide) (xi) ?_
          refine wb_L_law_862 ?_
          refine cl_L_law_866 rfl (by decide) (xj) ?_
          refine wb_L_law_869 ?_
          rw [if_pos ((lg_eq0 _ _).mpr (lne.mpr z2))]
          refine wb_L_law_878 ?_
          rw [and1]
          refine wb_L_law_881 ?_
          rw [nI_s]
          exact x
      · refine ⟨hj, x4, nI 0, sj, m4', no (fun y => z2 (bx.mp y).2), fun R x => pre R ?_⟩
        refine wb_L_law_851 ?_
        rw [if_pos ((lg_eq0 _ _).mpr (lie.mpr z1))]
        refine cl_L_law_859 rfl (by decide) (xi) ?_
        refine wb_L_law_862 ?_
        refine cl_L_law_866 rfl (by decide) (xj) ?_
        refine wb_L_law_869 ?_
        rw [if_neg (fun y => z2 (lne.mp ((lg_eq0 _ _).mp y)))]
        exact tail R x
    · refine ⟨hh, x4, nI 0, sh, m4', no (fun y => z1 (bx.mp y).1), fun R x => pre R ?_⟩
      refine wb_L_law_851 ?_
      rw [if_neg (fun y => z1 (lie.mp ((lg_eq0 _ _).mp y)))]
      exact tail R x
theorem lw_settle {k : Nat} (s : lS c n K P B np T C nr U V W k h h1) : ∃ h2, lS c n K P B np T C nr U V W k h h2 ∧ ∀ R, XX true 18 112 919 [.ref 48, .ref 64, .ref 153, ax_junk, ax_junk, ax_junk, .int (nI 0), ax_junk, ax_junk, ax_junk, ax_junk, ax_junk, ax_junk, ax_junk, ax_junk] [] (h2) (R) → XX true 18 112 736 [.ref 48, .ref 64, .ref 153, ax_junk, ax_junk, ax_junk, ax_junk, ax_junk, ax_junk, ax_junk, ax_junk, ax_junk, ax_junk, ax_junk, ax_junk] [] (h1) (R) := by
  obtain ⟨h2, a4, a5, s2, m2, b2, x2⟩ := lw_rep (q := 0) s (by decide) (Or.inr ⟨rfl, fun p hp => absurd hp (Nat.not_lt_zero _)⟩) (Or.inl ⟨rfl, fun p hp => absurd hp (Nat.not_lt_zero _)⟩)
  obtain ⟨h3, b4, b5, s3, m3, b3, x3⟩ := lw_rep (q := 1) s2 (by decide) m2 b2
  obtain ⟨h4, c4, c5, s4, m4, b4', x4⟩ := lw_rep (q := 2) s3 (by decide) m3 b3
  obtain ⟨h5, y, x5, is, f5⟩ := lg_settled s4.2.2
  refine ⟨h5, s4.cl f5, fun R x => ?_⟩
  refine wb_L_law_736 ?_
  refine x2 R (x3 R (x4 R ?_))
  refine wb_L_law_745 ?_
  rw [if_neg (by decide)]
  refine cl_L_law_888 rfl (by decide) (x5) ?_
  refine wb_L_law_891 ?_
  have fin : ∀ v, y = v → XX true 18 112 911 [.ref 48, .ref 64, .ref 153, ax_junk, ax_junk, ax_junk, ax_junk, ax_junk, ax_junk, ax_junk, ax_junk, ax_junk, ax_junk, ax_junk, ax_junk] [.int (v), .int (y)] (h5) (R) := by
    intro v e
    refine wb_L_law_911 ?_
    rw [if_pos e]
    exact x
  rcases m4 with ⟨e, p, p1, p2⟩ | ⟨e, nm⟩
  · rw [e, if_neg (by decide)]
    refine fin _ ?_
    rcases is with ⟨-, r⟩ | ⟨z, -⟩ | ⟨z, -⟩
    · exact r
    · exact absurd p2 (z p p1)
    · exact absurd p2 (z p p1)
  · rw [e, if_pos rfl]
    rcases b4' with ⟨e5, al⟩ | ⟨e5, p, p1, p2, p3⟩
    · rw [e5, if_neg (by decide)]
      refine fin _ ?_
      rcases is with ⟨⟨p, p1, p2⟩, -⟩ | ⟨-, -, r⟩ | ⟨-, ⟨p, p1, p2⟩, -⟩
      · exact absurd p2 (nm p p1)
      · exact r
      · exact absurd (al p p1 (nm p p1)) p2
    · rw [e5, if_pos rfl]
      refine fin _ ?_
      rcases is with ⟨⟨p, p1, p2⟩, -⟩ | ⟨-, z, -⟩ | ⟨-, -, r⟩
      · exact absurd p2 (nm p p1)
      · exact absurd (z p p1) p3
      · exact r
end S98
