/-! THE CLASS'S CALLS: means, a rule put -/
section S69
variable {c n np nr : Nat} {K P B S T C TA AA : Nat → Nat} {U : Nat → Nat → Nat} {V W : Nat → Int} {h h' : AH}
theorem v_frac0 {A : Int} {D : Nat} (h1 : -4611686018427387904 ≤ A) (h2 : A ≤ 4611686018427387904) (hD : 1 ≤ D) (hD2 : D < 2048) : lI A / lN (Nat.gcd A.natAbs D) = lN 0 ↔ A = 0 := by
  have g1 : 0 < Nat.gcd A.natAbs D := Nat.gcd_pos_of_pos_right _ (by omega)
  have g2 : Nat.gcd A.natAbs D ≤ D := Nat.gcd_le_right _ (by omega)
  have gd : Nat.gcd A.natAbs D ∣ A.natAbs := Nat.gcd_dvd_left _ _
  have AT : (lI A).toInt = A := lI_toInt (by omega) (by omega)
  generalize Nat.gcd A.natAbs D = G at *
  have ne : lN G ≠ -1 := by
    intro z
    have := congrArg Int64.toInt z
    rw [pk_lT (by omega), show (-1 : Int64).toInt = -1 by decide] at this
    omega
  have e : (lI A / lN G).toInt = A.tdiv G := by rw [Int64.toInt_div_of_ne_right _ _ ne, AT, pk_lT (by omega)]
  constructor
  · intro z
    have z1 := congrArg Int64.toInt z
    rw [e, pk_lT (by decide)] at z1
    have z2 := Int.natAbs_tdiv A G
    rw [z1] at z2
    have z3 : A.natAbs / G = 0 := by
      have : ((0 : Nat) : Int).natAbs = 0 := rfl
      rw [this] at z2
      have z4 : A.natAbs.div G = 0 := by simpa using z2.symm
      exact z4
    obtain ⟨k, hk⟩ := gd
    rw [hk, Nat.mul_div_cancel_left _ g1] at z3
    rw [z3, Nat.mul_zero] at hk
    omega
  · intro z
    apply Int64.toInt_inj.mp
    rw [e, z, Int.zero_tdiv, pk_lT (by decide)]
    rfl
theorem co_mean (s : tS 0 c n K P B S h) (t : cP 0 np T C h) (r : cR 0 nr U V TA AA h) (w : cW 0 W h) {sk : Nat} (k : cK 0 sk h) {A0 : Nat} (pl : cPl A0 h) (p part : Int32) : ∃ h' A', XX true 7 57 0 [.ref 64, .int (p), .int (part), ax_junk, ax_junk, ax_junk, ax_junk, ax_junk, ax_junk, ax_junk, ax_junk, ax_junk, ax_junk] [] (h) (some (.long (a_mean c n K P B (v_chs np T C B) U V W nr sk p part)), h') ∧ fr cfF h h' ∧ cPl A' h' := by
  have h6 := s.n6
  have wl := v_ways_le s.ok (Nat.le_refl n)
  unfold a_mean
  by_cases q : isPl p ∧ isPt part
  · obtain ⟨q0, q1⟩ := id q
    obtain ⟨a, ha, rfl⟩ := q0.ex
    rw [if_pos q, ix_nI (by omega)]
    obtain ⟨h1, A', r1, f, pl1⟩ := sp_together s t w r pl ha
    have s1 : tS 0 c n K P B S h1 := s.fr f rfl rfl
    have kk : hL h1 65 7 = lN sk := (f.L rfl).trans k.1
    have sb := sumZ_le (v_sumf_le (nr := nr) (U := U) (V := V) (W := W) s.ok r.2.1.1 (fun i hi => (w i hi).2) (v_chs np T C B) 3 a) (v_ways c K B n)
    have cb := v_chn_le s.ok n (Nat.le_refl _)
    generalize sumZ (v_sumf c n K P B (v_chs np T C B) U V W nr 3 a) (v_ways c K B n) = A at *
    have cc := sp_chances s1
    generalize v_chn c K B n = D at *
    have sh0 := cp_share (A := A) (D := D) (by omega) (by omega) (by omega) (by omega) (nI 0) h1
    have sh1 := cp_share (A := A) (D := D) (by omega) (by omega) (by omega) (by omega) (nI 1) h1
    have z0 := v_frac0 (A := A) (D := D) (by omega) (by omega) (by omega) (by omega)
    have g1 : 0 < Nat.gcd A.natAbs D := Nat.gcd_pos_of_pos_right _ (by omega)
    have g2 : Nat.gcd A.natAbs D ≤ D := Nat.gcd_le_right _ (by omega)
    have ud : 0 < D / Nat.gcd A.natAbs D := Nat.div_pos g2 g1
    have ul : D / Nat.gcd A.natAbs D ≤ D := Nat.div_le_self _ _
    have f1 : v_frac A D (nI 1) = lN (D / Nat.gcd A.natAbs D) := by
      unfold v_frac
      rw [if_neg (by decide), pk_lDiv (by omega) g1 (by omega)]
    have f0 : v_frac A D (nI 0) = lI A / lN (Nat.gcd A.natAbs D) := by
      unfold v_frac
      rw [if_pos rfl]
    have dv := cp_divisor (a := sk) (b := D / Nat.gcd A.natAbs D) k.2.2 ud (by omega) h1
    have gA : A = 0 → D / Nat.gcd A.natAbs D = 1 := by
      rintro rfl
      rw [show (0 : Int).natAbs = 0 from rfl, Nat.gcd_zero_left, Nat.div_self (by omega)]
    unfold v_mean
    rw [f0] at sh0
    rw [f1] at sh1
    generalize hX : lI A / lN (Nat.gcd A.natAbs D) = X at *
    generalize D / Nat.gcd A.natAbs D = E at *
    have b1 : 0 < Nat.gcd sk E := Nat.gcd_pos_of_pos_right _ ud
    have b2 : Nat.gcd sk E ≤ E := Nat.gcd_le_right _ ud
    have b3 : Nat.gcd sk E ≤ sk := Nat.gcd_le_left _ k.2.1
    have sd : 0 < sk / Nat.gcd sk E := Nat.div_pos b3 b1
    have sl : sk / Nat.gcd sk E ≤ sk := Nat.div_le_self _ _
    have k2 := k.2.2
    have kk1 := k.2.1
    refine ⟨h1, A', ?_, f, pl1⟩
    refine wb_X11_mean_0 ?_
    refine cl_X11_mean_1 rfl (by decide) (cp_isPlayer _ _) ?_
    refine wb_X11_mean_4 ?_
    rw [b2i_t q0, if_neg (by decide)]
    refine cl_X11_mean_8 rfl (by decide) (cp_isPart _ _) ?_
    refine wb_X11_mean_11 ?_
    rw [b2i_t q1, if_neg (by decide)]
    refine cl_X11_mean_27 rfl (by decide) (r1) ?_
    refine wb_X11_mean_30 ?_
    rw [iI_l (by omega) (by omega), s1.nn]
    refine cl_X11_mean_49 rfl (by decide) (cc) ?_
    refine wb_X11_mean_52 ?_
    rw [nI_l (by omega)]
    refine cl_X11_mean_59 rfl (by decide) (sh0) ?_
    refine wb_X11_mean_62 ?_
    refine cl_X11_mean_68 rfl (by decide) (sh1) ?_
    refine wb_X11_mean_71 ?_
    rw [kk]
    refine cl_X11_mean_82 rfl (by decide) (dv) ?_
    refine wb_X11_mean_85 ?_
    rw [kk, pk_lDiv k2 b1 (by omega)]
    refine ⟨lN_nz b1 (by omega), ?_⟩
    refine cl_X11_mean_99 rfl (by decide) (cp_isProduct _ sd (by omega) _) ?_
    refine wb_X11_mean_102 ?_
    by_cases xz : X = lN 0
    · have A0' := z0.mp xz
      have E1 := gA A0'
      have gc : Nat.gcd sk E = 1 := by rw [E1, Nat.gcd_one_right]
      have ft : v_fit X (sk / Nat.gcd sk E) := by
        rw [xz]
        show -9223372036854775808 ≤ (lN 0).toInt * _ ∧ (lN 0).toInt * _ < 9223372036854775808
        rw [pk_lT (by decide)]
        omega
      rw [b2i_t ft, if_neg (by decide), if_pos xz]
      rcases (isPt_or part).mp q1 with rfl | rfl
      · rw [if_pos rfl]
        refine ⟨lN_nz b1 (by omega), ?_⟩
        rw [xz, kk, pk_lDiv k2 b1 (by omega), lN_mul, Nat.zero_mul]
        rfl
      · rw [if_neg (by decide)]
        refine ⟨lN_nz b1 (by omega), ?_⟩
        rw [E1, gc] at *
        rw [gc, pk_lDiv (by omega) (by omega) (by omega)]
        rfl
    · rw [if_neg xz]
      by_cases z : v_fit X (sk / Nat.gcd sk E)
      · rw [b2i_t z, if_neg (by decide), if_pos z]
        by_cases pz : part = nI 0
        · rw [if_pos pz, if_pos pz, kk, pk_lDiv k2 b1 (by omega)]
          exact ⟨lN_nz b1 (by omega), rfl⟩
        · rw [if_neg pz, if_neg pz, pk_lDiv (by omega) b1 (by omega)]
          exact ⟨lN_nz b1 (by omega), rfl⟩
      · rw [b2i_f z, if_pos rfl, if_neg z, no_5]
  · rw [if_neg q]
    refine ⟨h, A0, ?_, fr.rfl', pl⟩
    refine wb_X11_mean_0 ?_
    refine cl_X11_mean_1 rfl (by decide) (cp_isPlayer _ _) ?_
    refine wb_X11_mean_4 ?_
    by_cases q0 : isPl p
    · rw [b2i_t q0, if_neg (by decide)]
      refine cl_X11_mean_8 rfl (by decide) (cp_isPart _ _) ?_
      refine wb_X11_mean_11 ?_
      rw [b2i_f (fun z => q ⟨q0, z⟩), if_pos rfl, no_2]
    · rw [b2i_f q0, if_pos rfl, no_2]
theorem newT (h : AH) (ha : 168 ≤ h.2.2.1) (t x y d : Nat) : ∃ h', XX true 1 104 0 [rf (h.2.2.1), .int (nI t), .int (nI x), .int (nI y), rf (d)] [] (mkD h 9) (none, h') ∧ fx 4 [] h h' ∧ tO h' h.2.2.1 t x y d := by
  have D := mk_dO h 9 ha
  have al : h.2.2.1 < (mkD h 9).2.2.1 := Nat.lt_succ_self _
  have hc : (mkD h 9).2.1 h.2.2.1 = 9 := by show (if h.2.2.1 = h.2.2.1 then 9 else _) = 9; rw [if_pos rfl]
  have g := mk_fx h 9 (k := 4) (by decide) (by decide)
  generalize mkD h 9 = h0 at *
  have f : fr [(h.2.2.1, none)] h0 (ax_wr (ax_wr (ax_wr (ax_wr h0 h.2.2.1 0 (.int (nI t))) h.2.2.1 1 (.int (nI x))) h.2.2.1 2 (.int (nI y))) h.2.2.1 3 (rf d)) := (((fr.wr (by simp [inS])).wr' (by simp [inS])).wr' (by simp [inS])).wr' (by simp [inS])
  refine ⟨ax_wr (ax_wr (ax_wr (ax_wr h0 h.2.2.1 0 (.int (nI t))) h.2.2.1 1 (.int (nI x))) h.2.2.1 2 (.int (nI y))) h.2.2.1 3 (rf d), ?_, ?_, ha, al, hc, ?_, ?_, ?_, ?_⟩
  · refine wb_X10_init_0 ?_
    exact ⟨by omega, ⟨D, wok_dyn ha _⟩, ⟨D, wok_dyn ha _⟩, ⟨D, wok_dyn ha _⟩, ⟨D, wok_dyn ha _⟩, rfl⟩
  · have e := f.1
    refine ⟨by rw [e]; exact g.1, by rw [e]; exact g.2.1, by rw [e]; exact g.2.2.1, by rw [e]; exact g.2.2.2.1, fun a h1 => by rw [e]; exact g.2.2.2.2.1 a h1, fun a j h1 q => ?_⟩
    rw [f.2 a j (by simp [inS]; omega)]
    exact g.2.2.2.2.2 a j h1 q
  · rw [wr_Ij (by decide), wr_Ij (by decide), wr_Ij (by decide), wr_I]
  · rw [wr_Ij (by decide), wr_Ij (by decide), wr_I]
  · rw [wr_Ij (by decide), wr_I]
  · rw [wr_R, toR_rf]
theorem newA (h : AH) (ha : 168 ≤ h.2.2.1) (m x y : Nat) (v : Int32) (d : Nat) : ∃ h', XX true 1 105 0 [rf (h.2.2.1), .int (nI m), .int (nI x), .int (nI y), .int (v), rf (d)] [] (mkD h 0) (none, h') ∧ fx 5 [] h h' ∧ aO h' h.2.2.1 m x y v.toInt d := by
  have D := mk_dO h 0 ha
  have al : h.2.2.1 < (mkD h 0).2.2.1 := Nat.lt_succ_self _
  have hc : (mkD h 0).2.1 h.2.2.1 = 0 := by show (if h.2.2.1 = h.2.2.1 then 0 else _) = 0; rw [if_pos rfl]
  have g := mk_fx h 0 (k := 5) (by decide) (by decide)
  generalize mkD h 0 = h0 at *
  have f : fr [(h.2.2.1, none)] h0 (ax_wr (ax_wr (ax_wr (ax_wr (ax_wr h0 h.2.2.1 0 (.int (nI m))) h.2.2.1 1 (.int (nI x))) h.2.2.1 2 (.int (nI y))) h.2.2.1 3 (.int v)) h.2.2.1 4 (rf d)) := ((((fr.wr (by simp [inS])).wr' (by simp [inS])).wr' (by simp [inS])).wr' (by simp [inS])).wr' (by simp [inS])
  refine ⟨ax_wr (ax_wr (ax_wr (ax_wr (ax_wr h0 h.2.2.1 0 (.int (nI m))) h.2.2.1 1 (.int (nI x))) h.2.2.1 2 (.int (nI y))) h.2.2.1 3 (.int v)) h.2.2.1 4 (rf d), ?_, ?_, ha, al, hc, ?_, ?_, ?_, ?_, ?_⟩
  · refine wb_X0_init_0 ?_
    exact ⟨by omega, ⟨D, wok_dyn ha _⟩, ⟨D, wok_dyn ha _⟩, ⟨D, wok_dyn ha _⟩, ⟨D, wok_dyn ha _⟩, ⟨D, wok_dyn ha _⟩, rfl⟩
  · have e := f.1
    refine ⟨by rw [e]; exact g.1, by rw [e]; exact g.2.1, by rw [e]; exact g.2.2.1, by rw [e]; exact g.2.2.2.1, fun a h1 => by rw [e]; exact g.2.2.2.2.1 a h1, fun a j h1 q => ?_⟩
    rw [f.2 a j (by simp [inS]; omega)]
    exact g.2.2.2.2.2 a j h1 q
  · rw [wr_Ij (by decide), wr_Ij (by decide), wr_Ij (by decide), wr_Ij (by decide), wr_I]
  · rw [wr_Ij (by decide), wr_Ij (by decide), wr_Ij (by decide), wr_I]
  · rw [wr_Ij (by decide), wr_Ij (by decide), wr_I]
  · rw [wr_Ij (by decide), wr_I]
    exact (Int32.ofInt_toInt v).symm
  · rw [wr_R, toR_rf]
abbrev cfRu (nr : Nat) : List (Nat × Option Nat) := [(90, some nr), (91, some nr), (92, some nr), (93, some nr), (65, some 6)]
theorem co_rule (r : cR 0 nr U V TA AA h) (al : 168 ≤ h.2.2.1) (t x y a b m v : Int32) : (isRule nr t x y a b m v → ∃ h' TA' AA', XX true 2 103 0 [.ref 64, .int (t), .int (x), .int (y), .int (a), .int (b), .int (m), .int (v)] [] (h) (some (.int (a_rule nr t x y a b m v)), h') ∧ fx 9 (cfRu nr) h h' ∧ cR 0 (nr + 1) (updN U nr (v_ru (ix t) (ix x) (ix y) (ix a) (ix b) (ix m))) (updZ V nr v.toInt) TA' AA' h') ∧ (¬ isRule nr t x y a b m v → XX true 2 103 0 [.ref 64, .int (t), .int (x), .int (y), .int (a), .int (b), .int (m), .int (v)] [] (h) (some (.int (a_rule nr t x y a b m v)), h)) := by
  have h8 := r.2.1.1.1
  have e78 : ∀ k : Int32, k < nI 8 ↔ k ≤ nI 7 := by
    intro k
    rw [Int32.lt_iff_toInt_lt, Int32.le_iff_toInt_le, show (nI 8).toInt = 8 by decide, show (nI 7).toInt = 7 by decide]
    omega
  have pre : ∀ R, (¬ ruleOk t x y a b m v → R = (some (.int (-nI 2)), h)) → (ruleOk t x y a b m v → nr = 8 → R = (some (.int (-nI 4)), h)) → (ruleOk t x y a b m v → nr ≠ 8 → XX true 2 103 127 [.ref 64, .int t, .int x, .int y, .int a, .int b, .int m, .int v] [.int x, .ref 65, .int y, .int x, .int t, rf h.2.2.1, rf h.2.2.1, .int (nI nr), .ref 90] (mkD h 9) R) → XX true 2 103 0 [.ref 64, .int (t), .int (x), .int (y), .int (a), .int (b), .int (m), .int (v)] [] (h) (R) := by
    intro R u1 u2 u3
    refine wb_X11_rule_0 ?_
    by_cases q1 : t < nI 0
    · rw [if_pos q1]; exact u1 (fun z => absurd z.1.1 (Int32.not_le.mpr q1))
    · rw [if_neg q1]
      by_cases q2 : t ≤ nI 4
      · rw [if_pos q2]
        by_cases q3 : m < nI 0
        · rw [if_pos q3]; exact u1 (fun z => absurd z.2.2.2.2.2.2.1.1 (Int32.not_le.mpr q3))
        · rw [if_neg q3]
          by_cases q4 : m ≤ nI 4
          · rw [if_pos q4]
            by_cases q5 : x < nI 0
            · rw [if_pos q5]; exact u1 (fun z => absurd z.2.1.1 (Int32.not_le.mpr q5))
            · rw [if_neg q5]
              by_cases q6 : x < nI 8
              · rw [if_pos q6]
                by_cases q7 : y < nI 0
                · rw [if_pos q7]; exact u1 (fun z => absurd z.2.2.1.1 (Int32.not_le.mpr q7))
                · rw [if_neg q7]
                  by_cases q8 : y < nI 8
                  · rw [if_pos q8]
                    refine cl_X11_rule_48 rfl (by decide) (cp_isPlayer _ _) ?_
                    refine wb_X11_rule_51 ?_
                    by_cases p1 : isPl a
                    · rw [b2i_t p1, if_neg (by decide)]
                      refine cl_X11_rule_56 rfl (by decide) (cp_isPlayer _ _) ?_
                      refine wb_X11_rule_59 ?_
                      by_cases p2 : isPl b
                      · rw [b2i_t p2, if_neg (by decide)]
                        by_cases p3 : a = b
                        · rw [if_pos p3]; exact u1 (fun z => z.2.2.2.2.2.1 p3)
                        · rw [if_neg p3]
                          by_cases p4 : v < -nI 99
                          · rw [if_pos p4]; exact u1 (fun z => absurd z.2.2.2.2.2.2.2.1 (Int32.not_le.mpr p4))
                          · rw [if_neg p4]
                            by_cases p5 : v ≤ nI 99
                            · rw [if_pos p5]
                              have ok : ruleOk t x y a b m v := ⟨⟨Int32.not_lt.mp q1, q2⟩, ⟨Int32.not_lt.mp q5, (e78 _).mp q6⟩, ⟨Int32.not_lt.mp q7, (e78 _).mp q8⟩, p1, p2, p3, ⟨Int32.not_lt.mp q3, q4⟩, Int32.not_lt.mp p4, p5⟩
                              rw [r.1]
                              by_cases p6 : nr = 8
                              · rw [if_neg (nI_nlt (by omega) (by omega))]; exact u2 ok p6
                              · rw [if_pos (nI_lt (by omega) (by omega))]; exact ⟨al, u3 ok p6⟩
                            · rw [if_neg p5]; exact u1 (fun z => p5 z.2.2.2.2.2.2.2.2)
                      · rw [b2i_f p2, if_pos rfl]; exact u1 (fun z => p2 z.2.2.2.2.1)
                    · rw [b2i_f p1, if_pos rfl]; exact u1 (fun z => p1 z.2.2.2.1)
                  · rw [if_neg q8]; exact u1 (fun z => q8 ((e78 _).mpr z.2.2.1.2))
              · rw [if_neg q6]; exact u1 (fun z => q6 ((e78 _).mpr z.2.1.2))
          · rw [if_neg q4]; exact u1 (fun z => q4 z.2.2.2.2.2.2.1.2)
      · rw [if_neg q2]; exact u1 (fun z => q2 z.1.2)
  unfold a_rule
  constructor
  · intro q
    obtain ⟨⟨q0, q1, q2, q3, q4, q5, q6, q7⟩, q8⟩ := id q
    obtain ⟨t', ht, rfl⟩ := q0.ex (by decide)
    obtain ⟨x', hx, rfl⟩ := q1.ex (by decide)
    obtain ⟨y', hy, rfl⟩ := q2.ex (by decide)
    obtain ⟨a', ha, rfl⟩ := q3.ex
    obtain ⟨b', hb, rfl⟩ := q4.ex
    obtain ⟨m', hm, rfl⟩ := q6.ex (by decide)
    have v9 : -99 ≤ v.toInt ∧ v.toInt ≤ 99 := by
      have z1 := Int32.le_iff_toInt_le.mp q7.1
      have z2 := Int32.le_iff_toInt_le.mp q7.2
      rw [show (-nI 99 : Int32).toInt = -99 by decide] at z1
      rw [show (nI 99 : Int32).toInt = 99 by decide] at z2
      exact ⟨z1, z2⟩
    have ab : a' ≠ b' := fun z => q5 (congrArg nI z)
    have ex : ix (nI x') = x' := ix_nI (by omega)
    simp only [ix_nI (show t' < 2 ^ 31 by omega), ex, ix_nI (show y' < 2 ^ 31 by omega), ix_nI (show a' < 2 ^ 31 by omega), ix_nI (show b' < 2 ^ 31 by omega), ix_nI (show m' < 2 ^ 31 by omega)]
    -- the test
    have f0 := mk_fx h 9 (k := 4) (by decide) (by decide)
    have r0 : cR 0 nr U V TA AA (mkD h 9) := cR_fx r f0 al (by decide) rfl rfl rfl
    have ta := sp_testAt r0 (nI x')
    obtain ⟨h1, n1, f1, to⟩ := newT h al t' x' y' (if isLt nr (nI x') then TA (ix (nI x')) else 9)
    have r1 : cR 0 nr U V TA AA h1 := cR_fx r f1 al (by decide) rfl rfl rfl
    have al1 : 168 ≤ h1.2.2.1 := Nat.le_trans al f1.1
    -- the test put
    have f2 : fr [(90, none)] h1 (ax_wr h1 90 nr (rf h.2.2.1)) := fr.wr (by simp [inS])
    have f2' : fr (cfRu nr) h1 (ax_wr h1 90 nr (rf h.2.2.1)) := fr.wr (by simp [inS])
    generalize h2e : ax_wr h1 90 nr (rf h.2.2.1) = h2 at f2 f2'
    have x90 : hR h2 90 nr = rf h.2.2.1 := by rw [← h2e, wr_R, toR_rf]
    have am2 : cAm h2 nr U V AA := cAm_fx r1.2.1 f2.fx rfl
    have n2 : hI h2 65 6 = nI nr := (f2.I rfl).trans r1.1
    have e91 : ∀ i, i < nr → hR h2 91 i = rf (AA i) := fun i hi => (f2.R rfl).trans (r1.2.2.2 i hi).2.1
    have al2 : 168 ≤ h2.2.2.1 := by rw [f2.1]; exact al1
    -- the amount
    have f3m := mk_fx h2 0 (k := 5) (by decide) (by decide)
    have aa : XX true 0 51 0 [.ref 65, .int (nI x')] [] (mkD h2 0) (some (rf (if isLt nr (nI x') then AA x' else 9)), mkD h2 0) := by
      refine wb_X1_amountAt_0 ?_
      have n3 : hI (mkD h2 0) 65 6 = nI nr := (f3m.I (by omega) rfl).trans n2
      rw [if_neg (nI_n0 (by omega)), n3]
      by_cases l : x' < nr
      · rw [if_pos (nI_lt l (by omega)), ex, if_pos ((isLt_nI (by omega) (by omega)).mpr l)]
        exact ⟨in_nI (by omega) (by decide), AA x', (f3m.R (by omega) rfl).trans (e91 x' l), rfl⟩
      · rw [if_neg (nI_nlt (by omega) (by omega)), if_neg (fun z => l ((isLt_nI (by omega) (by omega)).mp z))]
    obtain ⟨h3, n4, f3, ao⟩ := newA h2 al2 m' x' y' v (if isLt nr (nI x') then AA x' else 9)
    have f4 : fr [(91, none), (92, none), (93, none), (65, some 6)] h3 (ax_wr (ax_wr (ax_wr (ax_wr h3 91 nr (rf h2.2.2.1)) 92 nr (.int (nI a'))) 93 nr (.int (nI b'))) 65 6 (.int (nI (nr + 1)))) := (((fr.wr (by simp [inS])).wr' (by simp [inS])).wr' (by simp [inS])).wr' rfl
    have f4' : fr (cfRu nr) h3 (ax_wr (ax_wr (ax_wr (ax_wr h3 91 nr (rf h2.2.2.1)) 92 nr (.int (nI a'))) 93 nr (.int (nI b'))) 65 6 (.int (nI (nr + 1)))) := (((fr.wr (by simp [inS])).wr' (by simp [inS])).wr' (by simp [inS])).wr' (by simp [inS])
    have f13 : fx 4 (cfRu nr) h h2 := (f1.mono rfl (Nat.le_refl _)).trans (f2'.fx (L := cfRu nr))
    have f15 : fx 9 (cfRu nr) h h3 := f13.trans (f3.mono rfl (Nat.le_refl _))
    have f16 : fx 9 (cfRu nr) h (ax_wr (ax_wr (ax_wr (ax_wr h3 91 nr (rf h2.2.2.1)) 92 nr (.int (nI a'))) 93 nr (.int (nI b'))) 65 6 (.int (nI (nr + 1)))) := f15.trans (f4'.fx (L := cfRu nr))
    have n5 : hI h3 65 6 = nI nr := (f3.I (by omega) rfl).trans n2
    have oldT : cTe (ax_wr (ax_wr (ax_wr (ax_wr h3 91 nr (rf h2.2.2.1)) 92 nr (.int (nI a'))) 93 nr (.int (nI b'))) 65 6 (.int (nI (nr + 1)))) nr U TA := cTe_fx r.2.2.1 f16 rfl
    have oldA : cAm (ax_wr (ax_wr (ax_wr (ax_wr h3 91 nr (rf h2.2.2.1)) 92 nr (.int (nI a'))) 93 nr (.int (nI b'))) 65 6 (.int (nI (nr + 1)))) nr U V AA := cAm_fx r.2.1 f16 rfl
    have newTo := tO_fx (tO_fx (tO_fx to f2.fx rfl) f3 rfl) f4.fx rfl
    have newAo := aO_fx ao f4.fx rfl
    have lx : isLt nr (nI x') ↔ x' < nr := isLt_nI (by omega) (by omega)
    have okN : okR (nr + 1) (updN U nr (v_ru t' x' y' a' b' m')) (updZ V nr v.toInt) := ⟨by omega, fun i hi => by
      by_cases e : i = nr
      · rw [e, updN_s]
        unfold updZ
        rw [if_pos rfl]
        exact ⟨by show t' < 5; omega, by show x' < 8; omega, by show y' < 8; omega, ha, hb, ab, by show m' < 5; omega, v9⟩
      · rw [updN_o e]
        unfold updZ
        rw [if_neg e]
        exact r.2.1.1.2 i (by omega)⟩
    refine ⟨_, updN TA nr h.2.2.1, updN AA nr h2.2.2.1, pre _ (fun z => absurd q.1 z) (fun _ z => absurd z q8) (fun _ _ => ?_), f16, wr_I _ _ _ _, ⟨okN, fun i hi => ?_⟩, fun i hi => ?_, fun i hi => ?_⟩
    · refine cl_X11_rule_127 rfl (by decide) (ta) ?_
      refine cl_X11_rule_130 rfl (by decide) (n1) ?_
      refine ⟨by omega, ?_⟩
      refine wb_X11_rule_133 ?_
      rw [ix_nI (by omega), h2e, n2]
      refine ⟨in_nI (by omega) (by decide), Or.inr ⟨by have := to.1; omega, ?_, ?_⟩, al2, ?_⟩
      · have := (dyn_dO to.1 to.2.1 to.2.2.1).2.1
        exact this
      · exact (dyn_dO to.1 to.2.1 to.2.2.1).2.2
      refine cl_X11_rule_163 rfl (by decide) (aa) ?_
      refine cl_X11_rule_166 rfl (by decide) (n4) ?_
      refine ⟨by omega, ?_⟩
      refine wb_X11_rule_169 ?_
      have a1 : hI (ax_wr h3 91 nr (rf h2.2.2.1)) 65 6 = nI nr := (wr_Ia (by decide)).trans n5
      have a2 : hI (ax_wr (ax_wr h3 91 nr (rf h2.2.2.1)) 92 nr (.int (nI a'))) 65 6 = nI nr := (wr_Ia (by decide)).trans a1
      have a3 : hI (ax_wr (ax_wr (ax_wr h3 91 nr (rf h2.2.2.1)) 92 nr (.int (nI a'))) 93 nr (.int (nI b'))) 65 6 = nI nr := (wr_Ia (by decide)).trans a2
      simp only [show ix (nI nr) = nr from ix_nI (by omega), a1, a2, a3, nI_s, wr_I]
      rw [nI_subI (by omega), if_pos q.1, if_neg q8, Nat.add_sub_cancel]
      refine ⟨in_nI (by omega) (by decide), Or.inr ⟨by have := ao.1; omega, (dyn_dO ao.1 ao.2.1 ao.2.2.1).2.1, (dyn_dO ao.1 ao.2.1 ao.2.2.1).2.2⟩, in_nI (by omega) (by decide), in_nI (by omega) (by decide), rfl⟩
    · by_cases e : i = nr
      · rw [e, updN_s, updN_s]
        unfold updZ
        rw [if_pos rfl]
        have e2 : (if v_ru t' x' y' a' b' m' 1 < nr then updN AA nr h2.2.2.1 (v_ru t' x' y' a' b' m' 1) else 9) = if isLt nr (nI x') then AA x' else 9 := by
          show (if x' < nr then updN AA nr h2.2.2.1 x' else 9) = _
          by_cases l : x' < nr
          · rw [if_pos l, if_pos (lx.mpr l), updN_o (by omega)]
          · rw [if_neg l, if_neg (fun z => l (lx.mp z))]
        rw [e2]
        exact newAo
      · have o := oldA.2 i (by omega)
        rw [updN_o e, updN_o e]
        unfold updZ
        rw [if_neg e]
        have e2 : (if U i 1 < i then updN AA nr h2.2.2.1 (U i 1) else 9) = if U i 1 < i then AA (U i 1) else 9 := by
          by_cases l : U i 1 < i
          · rw [if_pos l, if_pos l, updN_o (by omega)]
          · rw [if_neg l, if_neg l]
        rw [e2]
        exact o
    · by_cases e : i = nr
      · rw [e, updN_s, updN_s]
        have e2 : (if v_ru t' x' y' a' b' m' 1 < nr then updN TA nr h.2.2.1 (v_ru t' x' y' a' b' m' 1) else 9) = if isLt nr (nI x') then TA (ix (nI x')) else 9 := by
          show (if x' < nr then updN TA nr h.2.2.1 x' else 9) = _
          rw [ex]
          by_cases l : x' < nr
          · rw [if_pos l, if_pos (lx.mpr l), updN_o (by omega)]
          · rw [if_neg l, if_neg (fun z => l (lx.mp z))]
        rw [e2]
        exact newTo
      · have o := oldT i (by omega)
        rw [updN_o e, updN_o e]
        have e2 : (if U i 1 < i then updN TA nr h.2.2.1 (U i 1) else 9) = if U i 1 < i then TA (U i 1) else 9 := by
          by_cases l : U i 1 < i
          · rw [if_pos l, if_pos l, updN_o (by omega)]
          · rw [if_neg l, if_neg l]
        rw [e2]
        exact o
    · by_cases e : i = nr
      · rw [e, updN_s, updN_s, updN_s]
        refine ⟨?_, ?_, ?_, ?_⟩
        · exact (f4.R rfl).trans ((f3.R (by omega) rfl).trans x90)
        · rw [wr_Ra (by decide), wr_Ra (by decide), wr_Ra (by decide), wr_R, toR_rf]
        · rw [wr_Ia (by decide), wr_Ia (by decide), wr_I]
          rfl
        · rw [wr_Ia (by decide), wr_I]
          rfl
      · have g := r1.2.2.2 i (by omega)
        have g2 : hR h2 90 i = rf (TA i) ∧ hR h2 91 i = rf (AA i) ∧ hI h2 92 i = nI (U i 3) ∧ hI h2 93 i = nI (U i 4) := ⟨by rw [← h2e, wr_Rj e]; exact g.1, (f2.R rfl).trans g.2.1, (f2.I rfl).trans g.2.2.1, (f2.I rfl).trans g.2.2.2⟩
        have g3 : hR h3 90 i = rf (TA i) ∧ hR h3 91 i = rf (AA i) ∧ hI h3 92 i = nI (U i 3) ∧ hI h3 93 i = nI (U i 4) := ⟨(f3.R (by omega) rfl).trans g2.1, (f3.R (by omega) rfl).trans g2.2.1, (f3.I (by omega) rfl).trans g2.2.2.1, (f3.I (by omega) rfl).trans g2.2.2.2⟩
        rw [updN_o e, updN_o e, updN_o e]
        refine ⟨?_, ?_, ?_, ?_⟩
        · exact (f4.R rfl).trans g3.1
        · rw [wr_Ra (by decide), wr_Ra (by decide), wr_Ra (by decide), wr_Rj e]
          exact g3.2.1
        · rw [wr_Ia (by decide), wr_Ia (by decide), wr_Ij e, wr_Ia (by decide)]
          exact g3.2.2.1
        · rw [wr_Ia (by decide), wr_Ij e, wr_Ia (by decide), wr_Ia (by decide)]
          exact g3.2.2.2
  · intro q
    exact pre _ (fun z => by rw [if_neg z]) (fun z y => by rw [if_pos z, if_pos y]) (fun z y => absurd ⟨z, y⟩ q)
end S69
